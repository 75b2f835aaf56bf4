/** Promises 1 to 3: a new object, zone, price; a method for each sentence that names an edge. */
final class EdgesOfPrices {
    private static final int UNKNOWN = Sentence.UNKNOWN, OUTSIDE = Sentence.OUTSIDE;
    private static final int STATE = Sentence.STATE, NONE = Sentence.NONE;
    private static final int[] FIRST_ZONES = {1, 2, 3, 4, 5, 1, 2, 3};

    private final Book book;

    EdgesOfPrices(Book book) {
        this.book = book;
    }

    void run() {
        noTap();
        nobodyIsBarred();
        noImageIsKept();
        zonesAtFirst();
        pricesAtFirst();
        pricesAtFirstInUse();
        objectsAreApart();
        objectsLiveSideBySide();
        lastOfTheCalls();
        zoneOfWhichStation();
        zoneFromOneToFive();
        zoneTheSame();
        zoneOfOneStationAlone();
        priceFromNothingToMost();
        moreFromNothingToMost();
        nearFromNothingToMost();
        priceOfWhichWidth();
        widthIsNoMatter();
        priceOfWhat();
        eachPriceAlone();
    }

    private void noTap() {
        Sentence s = book.sentence(1, "No TAP");
        for (int card = 0; card < 4; card++) {
            s.anew().due(0, "count", card).due(NONE, "told", card, 0, 0);
            s.due(0, "ride", card, -1, 0).due(NONE, "ride", card, 0, 0);
            s.due(0, "journey", card, -1, 0).due(NONE, "journey", card, 0, 0);
            for (int day = 0; day < 28; day++) {
                s.dueDay(card, day, 0, 0, 0, 0);
            }
            s.dueBest(card, 0).due(0, "saved", card, 0).due(0, "saved", card, 1);
        }
        s.due(0, "count", 7);
    }

    private void nobodyIsBarred() {
        Sentence s = book.sentence(1, "nobody is barred");
        s.due(0, "count", 4).due(0, "count", 5).due(0, "count", 6);
        for (int reader = 0; reader < 4; reader++) {
            s.due(0, "count", 10 + reader);
            for (int card = 0; card < 4; card++) {
                s.due(1, "pass", reader, card);
            }
        }
    }

    private void noImageIsKept() {
        Sentence s = book.sentence(1, "no IMAGE is kept");
        s.due(0, "count", 8).due(STATE, "restore", 0).due(STATE, "restore", 1);
    }

    private void zonesAtFirst() {
        Sentence s = book.sentence(1,
            "STATION 0 in ZONE 1 at first, 1 in 2, 2 in 3, 3 in 4, 4 in 5, 5 in 1, 6 in 2, 7 in 3");
        for (int station = 0; station < 8; station++) {
            s.due(FIRST_ZONES[station], "count", 20 + station);
        }
    }

    private void pricesAtFirst() {
        Sentence s = book.sentence(1, "a FARE (150 and 50 times w at first), a CAP (400 and 100 times w),"
            + " a WEEK (1500 and 400 times w)");
        for (int w = 1; w <= 5; w++) {
            s.due(150 + 50 * w, "price", 0, w, 0);
            s.due(400 + 100 * w, "price", 1, w, 0);
            s.due(1500 + 400 * w, "price", 2, w, 0);
        }
        book.sentence(1, "MORE is what a BUSY JOURNEY costs besides (50 at first)").due(50, "price", 3, 1, 0);
        book.sentence(1, "NEAR is a number of minutes (30 at first)").due(30, "price", 4, 1, 0);
    }

    /** The same prices as they are charged, lest price() alone knows them. */
    private void pricesAtFirstInUse() {
        Sentence s = book.sentence(1,
            "(150 and 50 times w at first), a CAP (400 and 100 times w), a WEEK (1500 and 400 times w)");
        for (int w = 1; w <= 5; w++) {
            s.whole(0, w, 600, 0, w - 1).due(150 + 50 * w, "journey", 0, w - 1, 3);
        }
        s.whole(0, 7, 500, 0, 0).due(200 + 50, "journey", 0, 5, 3);
        s.anew().whole(0, 7, 600, 0, 0).whole(0, 7, 601 + 30, 0, 0).due(1, "journey", 0, -1, 0);
        s.anew().whole(0, 7, 600, 0, 0).whole(0, 7, 601 + 31, 0, 0).due(2, "journey", 0, -1, 0);
        for (int w = 1; w <= 5; w++) {
            s.anew();
            for (int i = 0; i < 5; i++) {
                s.whole(0, 0, 100 * i, 0, w - 1);
            }
            s.due(5 * (150 + 50 * w), "day", 0, 0, 0).due(400 + 100 * w, "day", 0, 0, 2);
            s.anew();
            for (int i = 0; i < 24; i++) {
                s.whole(0, i % 7, 100 * (i / 7), 0, w - 1);
            }
            s.dueBest(0, 1500 + 400 * w, 0);
        }
    }

    private void objectsAreApart() {
        Sentence s = book.sentence(1, "No TAP; nobody is barred; no IMAGE is kept.");
        s.did("tap", 0, 0, 0, 0, 0).did("bar", 0, 1).did("hear", 0).did("zone", 0, 5).did("price", 0, 1, 7);
        s.did("price", 3, 1, 7).did("price", 4, 1, 7).did("image", 0).did("image", 1);
        s.anew().due(0, "count", 0).due(0, "count", 5).due(0, "count", 10).due(0, "count", 8);
        s.due(1, "pass", 0, 0).due(STATE, "restore", 0).due(STATE, "restore", 1).due(1, "count", 20);
        s.due(200, "price", 0, 1, 7).due(50, "price", 3, 1, 7).due(30, "price", 4, 1, 7);
    }

    /** One is made and used while the other is in use: neither sees anything of the other. */
    private void objectsLiveSideBySide() {
        Sentence s = book.sentence(1, "No TAP; nobody is barred");
        s.did("tap", 0, 0, 0, 0, 0).did("bar", 0, 1).did("hear", 0).did("zone", 0, 5).did("price", 0, 5, 7);
        s.did("image", 0);
        Sentence other = book.sentence(1, "no IMAGE is kept");
        other.due(0, "count", 0).due(0, "count", 4).due(STATE, "restore", 0).did("image", 1).did("tap", 0, 1, 1, 1, 1);
        other.did("bar", 1, 1).did("hear", 1).did("zone", 1, 4).did("price", 3, 0, 9).due(400, "best", 0, 0);
        s.due(1, "count", 8).due(STATE, "restore", 1).dueTap(0, 0, 0, 0, 0, 0).due(1, "count", 0).due(1, "count", 5);
        s.due(0, "pass", 0, 0).due(0, "count", 11).due(5, "count", 20).due(2, "count", 21).due(7, "best", 0, 0);
        s.due(50, "price", 3, 0, 0).due(1, "restore", 0);
        other.due(2, "count", 8).dueTap(0, 0, 1, 1, 1, 1).due(2, "count", 5).due(1, "count", 20).due(4, "count", 21);
        other.due(400, "price", 0, 5, 0).due(9, "price", 3, 0, 0).due(1, "restore", 1).due(0, "count", 0);
    }

    private void lastOfTheCalls() {
        Sentence s = book.sentence(1, "An object is used for at most 512 calls after it has been made");
        for (int i = 0; i < 48; i++) {
            s.due(i + 1, "tap", 3, 27, 1439 - i, 7, i % 2);
        }
        // Each bar changes THE LIST, so that its NUMBER grows with every call.
        for (int i = 48; i < Sentence.MOST_CALLS - 1; i++) {
            s.due(i - 47, "bar", 3, 1 - i % 2);
        }
        s.due(Sentence.MOST_CALLS - 1 - 48, "count", 4);
        s.anew().did("tap", 0, 13, 700, 0, 0);
        for (int i = 1; i < Sentence.MOST_CALLS - 1; i++) {
            s.due(i % 2 == 1 ? 99800 : 1, i % 2 == 1 ? "would" : "image", i % 2 == 1
                ? new int[] {0, 13, 701, 0, 1} : new int[] {i / 2 % 2});
        }
        s.due(2, "tap", 0, 13, 701, 0, 1);
    }

    private void zoneOfWhichStation() {
        Sentence s = book.sentence(2, "STATIONS 0 to 7");
        for (int station = 0; station < 8; station++) {
            s.due(FIRST_ZONES[station], "zone", station, 5).due(5, "count", 20 + station);
        }
        for (int station : Sentence.beyond(0, 7)) {
            s.due(UNKNOWN, "zone", station, 1);
        }
        for (int station = 0; station < 8; station++) {
            s.due(5, "count", 20 + station);
        }
    }

    private void zoneFromOneToFive() {
        Sentence s = book.sentence(2, "ZONES, 1 to 5");
        s.due(3, "zone", 7, 1).due(1, "zone", 7, 5).due(5, "zone", 7, 2);
        for (int zone : Sentence.beyond(1, 5)) {
            s.due(OUTSIDE, "zone", 7, zone).due(2, "count", 27);
        }
    }

    private void zoneTheSame() {
        Sentence s = book.sentence(2, "A STATION lies in another ZONE (or the same): which it lay in.");
        for (int station = 0; station < 8; station++) {
            int zone = FIRST_ZONES[station];
            s.due(zone, "zone", station, zone).due(zone, "count", 20 + station);
        }
    }

    private void zoneOfOneStationAlone() {
        Sentence s = book.sentence(2, "A STATION lies in another ZONE");
        for (int moved = 0; moved < 8; moved++) {
            s.anew().due(FIRST_ZONES[moved], "zone", moved, 4);
            for (int station = 0; station < 8; station++) {
                s.due(station == moved ? 4 : FIRST_ZONES[station], "count", 20 + station);
            }
        }
        s.anew().whole(0, 0, 0, 0, 1).due(2, "journey", 0, 0, 2).did("zone", 1, 5).due(5, "journey", 0, 0, 2);
        s.did("zone", 1, 1).due(1, "journey", 0, 0, 2).did("zone", 0, 5).due(5, "journey", 0, 0, 2);
    }

    private void priceFromNothingToMost() {
        Sentence s = book.sentence(3, "The FARE (what = 0), CAP (1), WEEK (2) of WIDTH w is n (0 to 9999)");
        for (int what = 0; what < 3; what++) {
            for (int w = 1; w <= 5; w++) {
                s.anew().did("price", what, w, 1).due(1, "price", what, w, 0).due(0, "price", what, w, 9999);
                for (int n : Sentence.beyond(0, 9999)) {
                    s.due(OUTSIDE, "price", what, w, n);
                }
                s.due(9999, "price", what, w, 9999);
            }
        }
    }

    private void moreFromNothingToMost() {
        Sentence s = book.sentence(3, "n (0 to 9999), or MORE (3)");
        s.due(50, "price", 3, 1, 0).due(0, "price", 3, 1, 9999);
        for (int n : Sentence.beyond(0, 9999)) {
            s.due(OUTSIDE, "price", 3, 1, n);
        }
        s.due(9999, "price", 3, 1, 9999).did("tap", 0, 0, 500, 0, 0).due(400 + 9999, "journey", 0, 0, 3);
        s.did("price", 3, 1, 0).due(400, "journey", 0, 0, 3).due(1, "journey", 0, 0, 4);
    }

    private void nearFromNothingToMost() {
        Sentence s = book.sentence(3, "NEAR (4; 0 to 200)");
        s.due(30, "price", 4, 1, 0).due(0, "price", 4, 1, 200);
        for (int n : Sentence.beyond(0, 200)) {
            s.due(OUTSIDE, "price", 4, 1, n);
        }
        s.due(OUTSIDE, "price", 4, 1, 9999).due(200, "price", 4, 1, 200);
    }

    private void priceOfWhichWidth() {
        Sentence s = book.sentence(3, "A WIDTH is 1 to 5");
        for (int what = 0; what < 3; what++) {
            s.anew();
            for (int w : Sentence.beyond(1, 5)) {
                s.due(OUTSIDE, "price", what, w, 7);
            }
            int base = new int[] {150, 400, 1500}[what];
            int step = new int[] {50, 100, 400}[what];
            for (int w = 1; w <= 5; w++) {
                s.due(base + step * w, "price", what, w, 7);
            }
        }
    }

    private void widthIsNoMatter() {
        Sentence s = book.sentence(3, "(w is no matter)");
        int more = 50;
        int near = 30;
        for (int w : Sentence.beyond(1, 5)) {
            s.due(more, "price", 3, w, more + 1).due(near, "price", 4, w, near + 1);
            more++;
            near++;
        }
        for (int w : Sentence.beyond(1, 5)) {
            s.due(OUTSIDE, "price", 3, w, 10000).due(OUTSIDE, "price", 4, w, 201);
        }
        s.due(more, "price", 3, 0, 0).due(near, "price", 4, 0, 0);
    }

    private void priceOfWhat() {
        Sentence s = book.sentence(3, "which it was. OUTSIDE.");
        for (int what : Sentence.beyond(0, 4)) {
            s.due(OUTSIDE, "price", what, 1, 1);
        }
        s.due(200, "price", 0, 1, 1).due(500, "price", 1, 1, 1).due(1900, "price", 2, 1, 1);
        s.due(50, "price", 3, 1, 1).due(30, "price", 4, 1, 1);
    }

    private void eachPriceAlone() {
        Sentence s = book.sentence(3, "The FARE (what = 0), CAP (1), WEEK (2) of WIDTH w is n (0 to 9999),"
            + " or MORE (3), NEAR (4; 0 to 200) (w is no matter): which it was.");
        for (int what = 0; what < 5; what++) {
            for (int w = 1; w <= (what < 3 ? 5 : 1); w++) {
                s.did("price", what, w, 10 * what + w);
            }
        }
        for (int what = 0; what < 5; what++) {
            for (int w = 1; w <= (what < 3 ? 5 : 1); w++) {
                s.due(10 * what + w, "price", what, w, 10 * what + w);
            }
        }
    }
}
