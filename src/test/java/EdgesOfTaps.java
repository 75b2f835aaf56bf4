/** Promises 4 to 6: tap, untap, told; a method for each sentence that names an edge. */
final class EdgesOfTaps {
    private static final int UNKNOWN = Sentence.UNKNOWN, OUTSIDE = Sentence.OUTSIDE, FULL = Sentence.FULL;
    private static final int NO = Sentence.NO, NONE = Sentence.NONE;

    private final Book book;

    EdgesOfTaps(Book book) {
        this.book = book;
    }

    void run() {
        tapOfWhichCard();
        tapAtWhichStation();
        tapOnWhichDay();
        tapAtWhichMinute();
        tapWhichWay();
        tapAtOneMinute();
        tapNextToMidnight();
        tapWhenFull();
        tapWhenFullThenNot();
        tapsInTheirOrder();
        tapsOfOneDayInTheirOrder();
        untapToNone();
        untapWhatIsNot();
        untapOfWhichCard();
        untapOutside();
        untapOfAFullCard();
        toldFromNothing();
        toldOfNone();
        toldOfWhat();
        toldOfWhichCard();
    }

    /** A CARD with all the TAPS that it may have, in at STATION 0, at falling MINUTES of DAY 9. */
    private static Sentence fill(Sentence s, int card) {
        for (int i = 0; i < 48; i++) {
            s.due(i + 1, "tap", card, 9, 147 - i, 0, 0);
        }
        return s;
    }

    private void tapOfWhichCard() {
        Sentence s = book.sentence(4, "UNKNOWN: the CARD");
        for (int card = 0; card < 4; card++) {
            s.due(1, "tap", card, 0, 0, 0, 0);
        }
        for (int card : Sentence.beyond(0, 3)) {
            s.due(UNKNOWN, "tap", card, 1, 1, 0, 0);
        }
        for (int card = 0; card < 4; card++) {
            s.due(1, "count", card);
        }
    }

    private void tapAtWhichStation() {
        Sentence s = book.sentence(4, "UNKNOWN: the CARD, the STATION");
        for (int station = 0; station < 8; station++) {
            s.due(station + 1, "tap", 1, 0, station, station, 0).due(station, "told", 1, station, 2);
        }
        for (int station : Sentence.beyond(0, 7)) {
            s.due(UNKNOWN, "tap", 1, 1, 1, station, 0);
        }
        s.due(8, "count", 1);
    }

    private void tapOnWhichDay() {
        Sentence s = book.sentence(4, "a DAY, 0 to 27");
        for (int day = 0; day < 28; day++) {
            s.due(day + 1, "tap", 2, day, 720, 0, 0).due(day, "told", 2, day, 0);
        }
        for (int day : Sentence.beyond(0, 27)) {
            s.due(OUTSIDE, "tap", 2, day, 721, 0, 0);
        }
        s.due(28, "count", 2);
    }

    private void tapAtWhichMinute() {
        Sentence s = book.sentence(4, "a MINUTE, 0 to 1439");
        s.due(1, "tap", 3, 0, 0, 0, 0).due(2, "tap", 3, 0, 1439, 0, 0);
        s.due(3, "tap", 3, 27, 0, 0, 0).due(4, "tap", 3, 27, 1439, 0, 0);
        for (int minute : Sentence.beyond(0, 1439)) {
            s.due(OUTSIDE, "tap", 3, 0, minute, 0, 0);
            s.due(OUTSIDE, "tap", 3, 5, minute, 0, 0);
            s.due(OUTSIDE, "tap", 3, 27, minute, 0, 0);
        }
        s.due(4, "count", 3).dueTap(3, 0, 0, 0).dueTap(3, 1, 0, 1439).dueTap(3, 2, 27, 0).dueTap(3, 3, 27, 1439);
    }

    private void tapWhichWay() {
        Sentence s = book.sentence(4, "way 0: in, 1: out.");
        s.due(1, "tap", 0, 0, 0, 0, 0).due(2, "tap", 0, 0, 1, 0, 1).due(0, "told", 0, 0, 3).due(1, "told", 0, 1, 3);
        for (int way : Sentence.beyond(0, 1)) {
            s.due(OUTSIDE, "tap", 0, 1, 1, 0, way);
        }
        s.due(2, "count", 0).due(1, "ride", 0, -1, 0).due(0, "ride", 0, 0, 2);
    }

    private void tapAtOneMinute() {
        Sentence s = book.sentence(4, "NO: it has one at this MINUTE");
        s.due(1, "tap", 0, 3, 600, 2, 0);
        for (int way = 0; way < 2; way++) {
            for (int station = 0; station < 8; station++) {
                s.due(NO, "tap", 0, 3, 600, station, way);
            }
        }
        s.dueTap(0, 0, 3, 600, 2, 0).due(2, "tap", 0, 3, 599, 2, 0).due(3, "tap", 0, 3, 601, 2, 0);
        s.due(4, "tap", 0, 2, 600, 2, 0).due(5, "tap", 0, 4, 600, 2, 0).due(1, "tap", 1, 3, 600, 2, 0);
        s.due(4, "untap", 0, 3, 600).due(5, "tap", 0, 3, 600, 5, 1).due(NO, "tap", 0, 3, 600, 5, 1);
        s.dueTap(0, 2, 3, 600, 5, 1);
    }

    private void tapNextToMidnight() {
        Sentence s = book.sentence(4, "no two at one MINUTE of one DAY");
        s.due(1, "tap", 0, 0, 1439, 0, 0).due(2, "tap", 0, 1, 0, 1, 0).due(3, "tap", 0, 1, 1439, 2, 0);
        s.due(4, "tap", 0, 0, 0, 3, 0).due(NO, "tap", 0, 0, 1439, 0, 0).due(NO, "tap", 0, 1, 0, 0, 0);
        s.due(NO, "tap", 0, 1, 1439, 0, 0).due(NO, "tap", 0, 0, 0, 0, 0);
        s.dueTap(0, 0, 0, 0, 3).dueTap(0, 1, 0, 1439, 0).dueTap(0, 2, 1, 0, 1).dueTap(0, 3, 1, 1439, 2);
    }

    private void tapWhenFull() {
        Sentence s = book.sentence(4, "a CARD has 48 at most");
        fill(s, 2).due(FULL, "tap", 2, 0, 0, 0, 0).due(FULL, "tap", 2, 27, 1439, 7, 1);
        s.due(FULL, "tap", 2, 9, 148, 0, 0).due(48, "count", 2).due(48, "ride", 2, -1, 0);
        s.dueTap(2, 0, 9, 100, 0, 0).dueTap(2, 47, 9, 147, 0, 0).due(NONE, "told", 2, 48, 0);
        fill(s, 3).due(FULL, "tap", 3, 0, 0, 0, 0).due(48, "count", 3);
        s.due(1, "tap", 0, 0, 0, 0, 0).due(1, "tap", 1, 0, 0, 0, 0);
    }

    private void tapWhenFullThenNot() {
        Sentence s = book.sentence(4, "A TAP of a CARD: how many it has. .. FULL.");
        fill(s, 0).due(47, "untap", 0, 9, 147).due(48, "tap", 0, 0, 0, 7, 1).due(FULL, "tap", 0, 0, 1, 0, 0);
        s.dueTap(0, 0, 0, 0, 7, 1).dueTap(0, 1, 9, 100, 0, 0).dueTap(0, 47, 9, 146, 0, 0);
        s.due(47, "untap", 0, 0, 0).due(48, "tap", 0, 27, 1439, 6, 1).due(FULL, "tap", 0, 0, 0, 0, 0);
        s.dueTap(0, 0, 9, 100, 0, 0).dueTap(0, 46, 9, 146, 0, 0).dueTap(0, 47, 27, 1439, 6, 1);
    }

    private void tapsInTheirOrder() {
        Sentence s = book.sentence(4, "They go by rising DAYS, of one DAY by rising MINUTES.");
        // Steps of 5 come to each of 48 places once, in a mixed order.
        for (int i = 0; i < 48; i++) {
            int place = i * 5 % 48;
            s.due(i + 1, "tap", 1, place * 28 / 48, place % 2 == 0 ? 1439 : 0, place % 8, place % 2);
        }
        int before = -1;
        for (int i = 0; i < 48; i++) {
            int day = s.answer(new Call("told", 1, i, 0));
            int minute = s.answer(new Call("told", 1, i, 1));
            s.holds("the " + i + "-th TAP is behind the one before", day * 1440 + minute > before);
            s.due(minute == 0 ? 1 : 0, "told", 1, i, 3);
            before = day * 1440 + minute;
        }
    }

    private void tapsOfOneDayInTheirOrder() {
        Sentence s = book.sentence(4, "taps come in whatever order, and what is owed hangs on what they are");
        int[][] orders = {{0, 1, 2}, {0, 2, 1}, {1, 0, 2}, {1, 2, 0}, {2, 0, 1}, {2, 1, 0}};
        for (int[] order : orders) {
            s.anew();
            for (int place : order) {
                s.did("tap", 0, place / 2, new int[] {10, 1000, 20}[place], place, place % 2);
            }
            s.dueTap(0, 0, 0, 10, 0, 0).dueTap(0, 1, 0, 1000, 1, 1).dueTap(0, 2, 1, 20, 2, 0);
            s.dueRide(0, 0, 0, 1, 0, 0, 0).dueRide(0, 1, 2, NONE, 1, 1, 1).due(650, "best", 0, 0);
        }
    }

    private void untapToNone() {
        Sentence s = book.sentence(5, "The TAP of a CARD at a MINUTE of a DAY goes: how many it has.");
        s.did("tap", 3, 27, 1439, 7, 1).did("tap", 3, 0, 0, 0, 0).did("tap", 2, 0, 0, 0, 0);
        s.due(1, "untap", 3, 0, 0).dueTap(3, 0, 27, 1439, 7, 1).due(0, "untap", 3, 27, 1439);
        s.due(NONE, "told", 3, 0, 0).due(0, "count", 3).due(0, "ride", 3, -1, 0).due(0, "best", 3, 0);
        s.due(1, "count", 2).due(1, "tap", 3, 0, 0, 5, 1).dueTap(3, 0, 0, 0, 5, 1);
    }

    private void untapWhatIsNot() {
        Sentence s = book.sentence(5, "NO: there is none.");
        s.due(NO, "untap", 0, 0, 0).due(NO, "untap", 0, 27, 1439).did("tap", 0, 4, 30, 1, 0).did("tap", 1, 4, 31, 1, 0);
        s.due(NO, "untap", 0, 4, 29).due(NO, "untap", 0, 4, 31).due(NO, "untap", 0, 3, 30).due(NO, "untap", 0, 5, 30);
        s.due(1, "count", 0).due(0, "untap", 0, 4, 30).due(NO, "untap", 0, 4, 30).due(0, "count", 0).due(1, "count", 1);
    }

    private void untapOfWhichCard() {
        Sentence s = book.sentence(5, "UNKNOWN");
        for (int card = 0; card < 4; card++) {
            s.did("tap", card, 1, 1, 1, 1).did("tap", card, 2, 2, 2, 0);
        }
        for (int card : Sentence.beyond(0, 3)) {
            s.due(UNKNOWN, "untap", card, 1, 1);
        }
        for (int card = 0; card < 4; card++) {
            s.due(2, "count", card).due(1, "untap", card, 1, 1);
        }
    }

    private void untapOutside() {
        Sentence s = book.sentence(5, "OUTSIDE: both");
        s.did("tap", 0, 0, 0, 0, 0).did("tap", 0, 0, 1439, 0, 0).did("tap", 0, 27, 0, 0, 0);
        s.did("tap", 0, 27, 1439, 0, 0).did("tap", 0, 1, 0, 0, 0);
        for (int day : Sentence.beyond(0, 27)) {
            s.due(OUTSIDE, "untap", 0, day, 0);
        }
        for (int minute : Sentence.beyond(0, 1439)) {
            s.due(OUTSIDE, "untap", 0, 0, minute).due(OUTSIDE, "untap", 0, 1, minute);
        }
        // The moments of TAPS that there are, told as MINUTES of other DAYS.
        s.due(OUTSIDE, "untap", 0, 0, 1440).due(OUTSIDE, "untap", 0, 1, -1).due(OUTSIDE, "untap", 0, 28, -1);
        s.due(5, "count", 0).due(4, "untap", 0, 0, 0).due(3, "untap", 0, 0, 1439).due(2, "untap", 0, 27, 0);
        s.due(1, "untap", 0, 27, 1439).due(0, "untap", 0, 1, 0);
    }

    private void untapOfAFullCard() {
        Sentence s = book.sentence(5, "The TAP of a CARD at a MINUTE of a DAY goes");
        for (int gone = 0; gone < 48; gone++) {
            fill(s.anew(), 1).due(47, "untap", 1, 9, 100 + gone).due(NO, "untap", 1, 9, 100 + gone);
            for (int i = 0; i < 47; i++) {
                s.due(100 + (i < gone ? i : i + 1), "told", 1, i, 1);
            }
            s.due(NONE, "told", 1, 47, 1).due(47, "ride", 1, -1, 0);
        }
    }

    private void toldFromNothing() {
        Sentence s = book.sentence(6,
            "Of the i-th TAP of a CARD, from 0 on: DAY (what = 0), MINUTE (1), STATION (2), way (3)");
        s.did("tap", 3, 27, 1439, 7, 1).did("tap", 3, 0, 0, 0, 0).did("tap", 0, 5, 6, 7, 0);
        s.dueTap(3, 0, 0, 0, 0, 0).dueTap(3, 1, 27, 1439, 7, 1).dueTap(0, 0, 5, 6, 7, 0);
        fill(s, 2).dueTap(2, 0, 9, 100, 0, 0).dueTap(2, 47, 9, 147, 0, 0);
    }

    private void toldOfNone() {
        Sentence s = book.sentence(6, "NONE: there is none such (i below 0, too)");
        for (int what = 0; what < 4; what++) {
            s.anew().due(NONE, "told", 0, 0, what).due(NONE, "told", 0, -1, what);
            s.did("tap", 0, 3, 4, 5, 1);
            for (int i : Sentence.beyond(0, 0)) {
                s.due(NONE, "told", 0, i, what);
            }
            s.did("tap", 0, 4, 4, 5, 1).due(NONE, "told", 0, 2, what).did("untap", 0, 4, 4);
            s.due(NONE, "told", 0, 1, what);
            fill(s, 1).due(NONE, "told", 1, 48, what).due(NONE, "told", 1, 49, what).due(NONE, "told", 1, -1, what);
        }
    }

    private void toldOfWhat() {
        Sentence s = book.sentence(6, "UNKNOWN; OUTSIDE.");
        s.did("tap", 0, 3, 4, 5, 1);
        for (int what : Sentence.beyond(0, 3)) {
            s.due(OUTSIDE, "told", 0, 0, what);
        }
    }

    private void toldOfWhichCard() {
        Sentence s = book.sentence(6, "UNKNOWN");
        for (int card = 0; card < 4; card++) {
            s.did("tap", card, card, card, card, 1).dueTap(card, 0, card, card, card, 1);
        }
        for (int card : Sentence.beyond(0, 3)) {
            s.due(UNKNOWN, "told", card, 0, 0).due(UNKNOWN, "told", card, -1, 0);
        }
    }
}
