/** Promises 13 to 15: bar, hear, pass; a method for each sentence that names an edge. */
final class EdgesOfLists {
    private static final int UNKNOWN = Sentence.UNKNOWN, OUTSIDE = Sentence.OUTSIDE;

    private final Book book;

    EdgesOfLists(Book book) {
        this.book = book;
    }

    void run() {
        numberAtFirst();
        barredThatWasNotSo();
        letThatWasNotSo();
        allAreBarred();
        barWhat();
        barWhichCard();
        nothingToHear();
        hearByHowMuch();
        hearAlone();
        hearWhichReader();
        whatWasNotHeardOf();
        asItWasWhenItLastHeard();
        passWhichReader();
        passWhichCard();
    }

    private void numberAtFirst() {
        Sentence s = book.sentence(13, "with a NUMBER, 0 at first");
        s.due(0, "count", 4).due(0, "bar", 0, 0).due(0, "bar", 3, 0).due(1, "bar", 3, 1);
    }

    private void barredThatWasNotSo() {
        Sentence s = book.sentence(13,
            "each time a CARD is barred or let again that was not so, the NUMBER is one more");
        for (int card = 0; card < 4; card++) {
            s.due(card + 1, "bar", card, 1).due(card + 1, "bar", card, 1).due((1 << card + 1) - 1, "count", 5);
        }
        s.due(4, "bar", 0, 1).due(4, "count", 4).due(15, "count", 5);
    }

    private void letThatWasNotSo() {
        Sentence s = book.sentence(13, "or let again that was not so");
        s.due(0, "bar", 2, 0).due(1, "bar", 2, 1).due(2, "bar", 2, 0).due(2, "bar", 2, 0).due(0, "count", 5);
        s.due(3, "bar", 2, 1).due(3, "bar", 1, 0).due(4, "count", 5).due(3, "count", 4);
    }

    private void allAreBarred() {
        Sentence s = book.sentence(13, "THE LIST is a set of CARDS that are barred");
        for (int set = 0; set < 16; set++) {
            s.anew();
            for (int card = 0; card < 4; card++) {
                s.did("bar", card, set >> card & 1);
            }
            s.due(set, "count", 5).due(Integer.bitCount(set), "count", 4);
        }
    }

    private void barWhat() {
        Sentence s = book.sentence(13, "A CARD is barred (on = 1), or let again (0)");
        for (int on : Sentence.beyond(0, 1)) {
            s.due(OUTSIDE, "bar", 0, on);
        }
        s.due(0, "count", 4).due(0, "count", 5).due(1, "bar", 0, 1);
        for (int on : Sentence.beyond(0, 1)) {
            s.due(OUTSIDE, "bar", 0, on);
        }
        s.due(1, "count", 4).due(1, "count", 5);
    }

    private void barWhichCard() {
        Sentence s = book.sentence(13, "UNKNOWN");
        for (int card : Sentence.beyond(0, 3)) {
            s.due(UNKNOWN, "bar", card, 1).due(UNKNOWN, "bar", card, 0);
        }
        s.due(0, "count", 4).due(0, "count", 5).due(1, "bar", 0, 1).due(2, "bar", 3, 1).due(9, "count", 5);
        for (int card : Sentence.beyond(0, 3)) {
            s.due(UNKNOWN, "bar", card, 1).due(UNKNOWN, "bar", card, 0);
        }
        s.due(2, "count", 4).due(9, "count", 5);
    }

    private void nothingToHear() {
        Sentence s = book.sentence(14, "by how much its NUMBER is greater than what it had");
        for (int reader = 0; reader < 4; reader++) {
            s.due(0, "hear", reader).due(0, "count", 10 + reader);
        }
        s.did("bar", 0, 1);
        for (int reader = 0; reader < 4; reader++) {
            s.due(1, "hear", reader).due(0, "hear", reader).due(1, "count", 10 + reader);
        }
        // Barred again what is barred: nothing to hear of.
        s.did("bar", 0, 1).due(0, "hear", 0).due(0, "count", 6);
    }

    private void hearByHowMuch() {
        Sentence s = book.sentence(14, "A READER hears of THE LIST as it is");
        for (int i = 0; i < 200; i++) {
            s.due(i + 1, "bar", 1, 1 - i % 2);
        }
        s.due(200, "hear", 3).due(200, "count", 13).due(1, "pass", 3, 1).due(201, "bar", 1, 1).due(1, "hear", 3);
        s.due(0, "pass", 3, 1).due(201, "hear", 0).due(201, "count", 10);
    }

    private void hearAlone() {
        Sentence s = book.sentence(14, "READERS are 0 to 3; each has THE LIST as it was when it last heard of it");
        for (int heard = 0; heard < 4; heard++) {
            s.anew().did("bar", 2, 1).due(1, "hear", heard);
            for (int reader = 0; reader < 4; reader++) {
                s.due(reader == heard ? 1 : 0, "count", 10 + reader).due(reader == heard ? 0 : 1, "pass", reader, 2);
            }
            s.due(3, "count", 6).due(1, "count", 4).due(4, "count", 5);
        }
    }

    private void hearWhichReader() {
        Sentence s = book.sentence(14, "UNKNOWN");
        s.did("bar", 0, 1);
        for (int reader : Sentence.beyond(0, 3)) {
            s.due(UNKNOWN, "hear", reader);
        }
        s.due(4, "count", 6).due(1, "hear", 0).due(1, "hear", 3).due(2, "count", 6);
    }

    private void whatWasNotHeardOf() {
        Sentence s = book.sentence(15, "1 it is let, 0 it is barred there; what was not heard of is not known");
        for (int reader = 0; reader < 4; reader++) {
            for (int card = 0; card < 4; card++) {
                s.anew().due(1, "pass", reader, card).did("bar", card, 1).due(1, "pass", reader, card);
                s.did("hear", (reader + 1) % 4).due(1, "pass", reader, card).did("hear", reader);
                s.due(0, "pass", reader, card).due(1, "pass", reader, (card + 1) % 4);
                s.did("bar", card, 0).due(0, "pass", reader, card).did("hear", reader).due(1, "pass", reader, card);
            }
        }
    }

    private void asItWasWhenItLastHeard() {
        Sentence s = book.sentence(15, "as it was when it last heard of it (at the beginning, at first)");
        s.did("bar", 0, 1).did("hear", 1).did("bar", 1, 1).did("hear", 2).did("bar", 0, 0).did("hear", 3);
        int[] sets = {0, 1, 3, 2};
        for (int reader = 0; reader < 4; reader++) {
            for (int card = 0; card < 4; card++) {
                s.due(1 - (sets[reader] >> card & 1), "pass", reader, card);
            }
        }
    }

    private void passWhichReader() {
        Sentence s = book.sentence(15, "UNKNOWN: both.");
        s.did("bar", 0, 1).did("hear", 0);
        for (int reader : Sentence.beyond(0, 3)) {
            s.due(UNKNOWN, "pass", reader, 0).due(UNKNOWN, "pass", reader, 3);
        }
        s.due(0, "pass", 0, 0).due(1, "pass", 3, 0);
    }

    private void passWhichCard() {
        Sentence s = book.sentence(15, "CARDS are 0 to 3");
        s.did("bar", 0, 1).did("bar", 3, 1).did("hear", 3);
        for (int card : Sentence.beyond(0, 3)) {
            s.due(UNKNOWN, "pass", 0, card).due(UNKNOWN, "pass", 3, card).due(UNKNOWN, "pass", 4, card);
        }
        s.due(0, "pass", 3, 3).due(0, "pass", 3, 0).due(1, "pass", 3, 1).due(1, "pass", 0, 3);
    }
}
