/** Promises 16 to 18: image, restore, count; a method for each sentence that names an edge. */
final class EdgesOfImages {
    private static final int OUTSIDE = Sentence.OUTSIDE, STATE = Sentence.STATE, FULL = Sentence.FULL;
    private static final int NONE = Sentence.NONE;

    private final Book book;

    EdgesOfImages(Book book) {
        this.book = book;
    }

    void run() {
        imageKeepsTaps();
        imageKeepsFullAndEmpty();
        imageKeepsZones();
        imageKeepsPrices();
        imageKeepsTheList();
        imageKeepsReaders();
        imageInPlace();
        imagesAreApart();
        imageChangesNothingElse();
        imageOutside();
        restoreStays();
        restoreLeavesImages();
        restoreThenGoesOn();
        restoreOutside();
        restoreOfNothing();
        countOfTaps();
        countOfTheList();
        countOfLaggards();
        countOfAllCosts();
        countOfImages();
        countOfReaders();
        countOfZones();
        countOutside();
    }

    private void imageKeepsTaps() {
        Sentence s = book.sentence(16, "All but IMAGES is kept in an IMAGE (0, 1)");
        for (int k = 0; k < 2; k++) {
            s.anew();
            for (int card = 0; card < 4; card++) {
                s.did("tap", card, 27, 1439, 7, 1).did("tap", card, card, 10, card, 0);
            }
            s.due(1, "image", k);
            for (int card = 0; card < 4; card++) {
                s.did("untap", card, 27, 1439).did("tap", card, 0, 0, 6, 1).did("tap", card, 0, 1, 6, 1);
            }
            s.due(1, "restore", k);
            for (int card = 0; card < 4; card++) {
                s.due(2, "count", card).dueTap(card, 0, card, 10, card, 0).dueTap(card, 1, 27, 1439, 7, 1);
                s.due(NONE, "told", card, 2, 0).due(2, "ride", card, -1, 0).due(800, "best", card, 0);
            }
        }
    }

    private void imageKeepsFullAndEmpty() {
        Sentence s = book.sentence(16, "All but IMAGES is kept");
        s.due(1, "image", 1);
        for (int i = 0; i < 48; i++) {
            s.did("tap", 0, 3, i, i % 8, 0);
        }
        s.due(1, "image", 0).due(1, "restore", 1).due(0, "count", 0).due(NONE, "told", 0, 0, 0).due(0, "best", 0, 0);
        s.due(1, "tap", 0, 9, 9, 1, 1).due(1, "restore", 0).due(48, "count", 0).due(FULL, "tap", 0, 9, 9, 1, 1);
        for (int i = 0; i < 48; i++) {
            s.dueTap(0, i, 3, i, i % 8, 0);
        }
    }

    private void imageKeepsZones() {
        Sentence s = book.sentence(16, "is kept in an IMAGE");
        int[] first = {1, 2, 3, 4, 5, 1, 2, 3};
        for (int station = 0; station < 8; station++) {
            s.anew().due(1, "image", 0).did("zone", station, 6 - first[station]).due(1, "image", 1);
            s.due(1, "restore", 0).due(first[station], "count", 20 + station);
            s.due(1, "restore", 1).due(6 - first[station], "count", 20 + station);
        }
    }

    private void imageKeepsPrices() {
        Sentence s = book.sentence(16, "All but IMAGES");
        for (int what = 0; what < 5; what++) {
            for (int w = 1; w <= 5; w++) {
                s.anew().did("price", what, w, 0).due(1, "image", 0).did("price", what, w, 199).due(1, "image", 1);
                s.due(1, "restore", 0).due(0, "price", what, w, 55).due(1, "restore", 1).due(199, "price", what, w, 55);
                s.due(1, "restore", 0).due(0, "price", what, w, 55);
            }
        }
    }

    private void imageKeepsTheList() {
        Sentence s = book.sentence(16, "kept in an IMAGE (0, 1)");
        for (int card = 0; card < 4; card++) {
            s.anew().due(1, "image", 0).due(1, "bar", card, 1).due(1, "image", 1);
            s.due(1, "restore", 0).due(0, "count", 4).due(0, "count", 5).due(0, "count", 6).due(0, "hear", card);
            s.due(1, "restore", 1).due(1, "count", 4).due(1 << card, "count", 5).due(4, "count", 6);
            s.due(2, "bar", card, 0);
        }
    }

    private void imageKeepsReaders() {
        Sentence s = book.sentence(16, "All but IMAGES is kept in an IMAGE");
        for (int reader = 0; reader < 4; reader++) {
            s.anew().did("bar", reader, 1).due(1, "image", 0).due(1, "hear", reader).due(1, "image", 1);
            s.due(1, "restore", 0).due(0, "count", 10 + reader).due(1, "pass", reader, reader).due(4, "count", 6);
            s.due(1, "restore", 1).due(1, "count", 10 + reader).due(0, "pass", reader, reader).due(3, "count", 6);
            s.due(0, "hear", reader).due(1, "restore", 0).due(1, "hear", reader);
        }
    }

    private void imageInPlace() {
        Sentence s = book.sentence(16, "in place of what was kept there: 1");
        for (int k = 0; k < 2; k++) {
            s.anew().did("tap", 0, 0, 0, 0, 0).did("bar", 0, 1).did("zone", 0, 5).due(1, "image", k);
            s.did("untap", 0, 0, 0).did("bar", 0, 0).did("zone", 0, 4).due(1, "image", k).did("tap", 0, 0, 0, 1, 1);
            s.due(1, "restore", k).due(0, "count", 0).due(2, "count", 4).due(0, "count", 5).due(4, "count", 20);
            s.due(1 << k, "count", 8);
        }
    }

    private void imagesAreApart() {
        Sentence s = book.sentence(16, "an IMAGE (0, 1)");
        s.did("tap", 0, 0, 0, 0, 0).due(1, "image", 0).did("tap", 0, 0, 1, 0, 0).due(1, "image", 1);
        s.did("tap", 0, 0, 2, 0, 0).due(1, "restore", 0).due(1, "count", 0).due(1, "restore", 1).due(2, "count", 0);
        s.due(1, "restore", 0).due(1, "count", 0).due(1, "image", 1).did("tap", 0, 0, 3, 0, 0).due(1, "image", 0);
        s.due(1, "restore", 1).due(1, "count", 0).due(1, "restore", 0).due(2, "count", 0);
    }

    private void imageChangesNothingElse() {
        Sentence s = book.sentence(16, "is kept in an IMAGE (0, 1), in place of what was kept there");
        s.did("tap", 0, 3, 4, 5, 1).did("bar", 1, 1).did("hear", 2).did("zone", 3, 1).did("price", 3, 0, 9);
        s.due(1, "image", 0).due(1, "image", 0).due(1, "image", 1).dueTap(0, 0, 3, 4, 5, 1).due(1, "count", 4);
        s.due(2, "count", 5).due(1, "count", 12).due(1, "count", 23).due(9, "price", 3, 0, 9).due(1, "count", 0);
    }

    private void imageOutside() {
        Sentence s = book.sentence(16, "1. OUTSIDE.");
        for (int k : Sentence.beyond(0, 1)) {
            s.due(OUTSIDE, "image", k).due(0, "count", 8);
        }
        s.due(STATE, "restore", 0).due(STATE, "restore", 1).due(1, "image", 0).did("tap", 0, 0, 0, 0, 0);
        for (int k : Sentence.beyond(0, 1)) {
            s.due(OUTSIDE, "image", k).due(1, "count", 8);
        }
        s.due(1, "restore", 0).due(0, "count", 0);
    }

    private void restoreStays() {
        Sentence s = book.sentence(17, "the IMAGE stays: 1");
        for (int k = 0; k < 2; k++) {
            s.anew().did("tap", 0, 0, 0, 0, 0).due(1, "image", k);
            for (int i = 1; i < 6; i++) {
                s.did("tap", 0, 0, i, 0, 0).did("bar", 0, 1).did("price", 0, 1, i).did("zone", 0, i % 5 + 1);
                s.due(1, "restore", k).due(1, "count", 0).due(0, "count", 4).due(1 << k, "count", 8);
                s.due(1, "count", 20);
            }
        }
    }

    private void restoreLeavesImages() {
        Sentence s = book.sentence(17, "All but IMAGES is as it was when it was kept");
        // IMAGE 1 was not kept yet when 0 was; it is still kept when 0 is restored.
        s.due(1, "image", 0).did("tap", 0, 0, 0, 0, 0).due(1, "image", 1).due(1, "restore", 0).due(3, "count", 8);
        s.due(0, "count", 0).due(1, "restore", 1).due(1, "count", 0).due(3, "count", 8);
    }

    private void restoreThenGoesOn() {
        Sentence s = book.sentence(17, "as it was when it was kept; the IMAGE stays");
        s.did("tap", 1, 0, 10, 0, 0).due(1, "image", 1).due(1, "restore", 1).due(2, "tap", 1, 0, 11, 0, 1);
        s.due(200, "best", 1, 0).due(1, "bar", 1, 1).due(1, "hear", 0).due(1, "restore", 1).due(1, "count", 1);
        s.due(400, "best", 1, 0).due(99800, "would", 1, 0, 11, 0, 1).due(1, "pass", 0, 1).due(0, "hear", 0);
    }

    private void restoreOutside() {
        Sentence s = book.sentence(17, "OUTSIDE; STATE: nothing was kept in it.");
        for (int k : Sentence.beyond(0, 1)) {
            s.due(OUTSIDE, "restore", k);
        }
        s.due(1, "image", 0).due(1, "image", 1).did("tap", 0, 0, 0, 0, 0);
        for (int k : Sentence.beyond(0, 1)) {
            s.due(OUTSIDE, "restore", k).due(1, "count", 0);
        }
    }

    private void restoreOfNothing() {
        Sentence s = book.sentence(17, "STATE: nothing was kept in it.");
        for (int k = 0; k < 2; k++) {
            s.anew().did("tap", 0, 0, 0, 0, 0).did("zone", 0, 3).due(STATE, "restore", k).due(1, "count", 0);
            s.due(1, "image", 1 - k).due(STATE, "restore", k).due(1, "count", 0).due(3, "count", 20);
            s.due(1, "restore", 1 - k).due(STATE, "restore", k).due(1, "image", k).due(1, "restore", k);
        }
    }

    private void countOfTaps() {
        Sentence s = book.sentence(18, "How many TAPS a CARD has (its number, 0 to 3)");
        for (int card = 0; card < 4; card++) {
            s.due(0, "count", card);
            for (int i = 0; i < 45 + card; i++) {
                s.did("tap", card, 0, i, 0, 0);
            }
        }
        for (int card = 0; card < 4; card++) {
            s.due(45 + card, "count", card);
        }
    }

    private void countOfTheList() {
        Sentence s = book.sentence(18, "the NUMBER of THE LIST (4), the set of CARDS that are barred (5: bits)");
        s.due(0, "count", 4).due(0, "count", 5).did("bar", 3, 1).due(1, "count", 4).due(8, "count", 5);
        s.did("bar", 0, 1).did("bar", 1, 1).did("bar", 2, 1).due(4, "count", 4).due(15, "count", 5);
        s.did("bar", 3, 0).due(5, "count", 4).due(7, "count", 5);
    }

    private void countOfLaggards() {
        Sentence s = book.sentence(18, "how many READERS lag behind it (6)");
        s.due(0, "count", 6).did("bar", 0, 1).due(4, "count", 6).did("hear", 0).due(3, "count", 6).did("hear", 1);
        s.due(2, "count", 6).did("hear", 2).due(1, "count", 6).did("hear", 3).due(0, "count", 6).did("bar", 0, 1);
        s.due(0, "count", 6).did("bar", 0, 0).due(4, "count", 6).did("bar", 0, 1).did("hear", 1).due(3, "count", 6);
    }

    private void countOfAllCosts() {
        Sentence s = book.sentence(18, "what THE BEST of all CARDS COST, added (7)");
        s.due(0, "count", 7);
        for (int card = 0; card < 4; card++) {
            s.whole(card, 0, 0, 0, card).whole(card, 6, 0, 0, card);
        }
        s.due(2 * (200 + 250 + 300 + 350), "count", 7);
        for (int w = 1; w <= 5; w++) {
            s.did("price", 2, w, w);
        }
        s.due(1 + 2 + 3 + 4, "count", 7).did("untap", 3, 0, 0).did("untap", 3, 0, 1).did("untap", 3, 6, 0);
        s.did("untap", 3, 6, 1).due(1 + 2 + 3, "count", 7);
    }

    private void countOfImages() {
        Sentence s = book.sentence(18, "which IMAGES are kept, a set: bits 0, 1 (8)");
        s.due(0, "count", 8).did("image", 1).due(2, "count", 8).did("image", 1).due(2, "count", 8).did("image", 0);
        s.due(3, "count", 8).did("restore", 0).due(3, "count", 8);
        s.anew().did("image", 0).due(1, "count", 8).did("image", 1).due(3, "count", 8);
    }

    private void countOfReaders() {
        Sentence s = book.sentence(18, "the NUMBER that a READER has (10 and its number)");
        for (int reader = 0; reader < 4; reader++) {
            s.due(0, "count", 10 + reader).did("bar", 0, 1 - reader % 2).did("hear", reader);
        }
        for (int reader = 0; reader < 4; reader++) {
            s.due(reader + 1, "count", 10 + reader);
        }
    }

    private void countOfZones() {
        Sentence s = book.sentence(18, "the ZONE of a STATION (20 and its number)");
        for (int station = 0; station < 8; station++) {
            s.did("zone", station, station % 5 + 1);
        }
        for (int station = 0; station < 8; station++) {
            s.due(station % 5 + 1, "count", 20 + station);
        }
    }

    private void countOutside() {
        Sentence s = book.sentence(18, "(20 and its number). OUTSIDE.");
        for (int what : new int[] {-1, 9, 14, 15, 16, 17, 18, 19, 28, 29, 30}) {
            s.due(OUTSIDE, "count", what);
        }
        for (int what : Sentence.beyond(0, 27)) {
            s.due(OUTSIDE, "count", what);
        }
        s.due(0, "count", 0).due(0, "count", 8).due(0, "count", 10).due(0, "count", 13).due(1, "count", 20);
        s.due(3, "count", 27);
    }
}
