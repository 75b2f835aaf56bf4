/** Promises 9 to 12: day, best, saved, would; a method for each sentence that names an edge. */
final class EdgesOfOwed {
    private static final int UNKNOWN = Sentence.UNKNOWN, OUTSIDE = Sentence.OUTSIDE, FULL = Sentence.FULL;
    private static final int NO = Sentence.NO, NONE = Sentence.NONE;

    private final Book book;

    EdgesOfOwed(Book book) {
        this.book = book;
    }

    void run() {
        sumOfADay();
        sumAtItsMost();
        widthOfADay();
        capIfLess();
        capOfItsWidth();
        ofAWeekOfTheBest();
        dayOutside();
        dayOfWhichCard();
        weekFromWhichDay();
        weekAtTheLastDays();
        weekIsSevenDays();
        noDayTogether();
        weekOfTheGreatestWidth();
        nothingIfAllAreNothing();
        eachOtherDayOwes();
        leastCost();
        fewestWeeks();
        firstWeekEarliest();
        laterWeeksEarliest();
        mostWeeks();
        bestOutside();
        bestOfWhichCard();
        savedByCaps();
        savedByWeeks();
        savedOutside();
        savedOfWhichCard();
        wouldBeAsMuch();
        wouldBeMore();
        wouldBeLess();
        wouldBeMostMoreAndMostLess();
        wouldAsWithTap();
        wouldWhenFull();
        wouldChangesNothing();
    }

    /** One day for 200 on each of these DAYS, a WEEK of WIDTH 1 at a price. */
    private static Sentence days(Sentence s, int week, int... days) {
        s.anew().did("price", 2, 1, week);
        for (int day : days) {
            s.whole(0, day, 0, 0, 0);
        }
        return s;
    }

    private void sumOfADay() {
        Sentence s = book.sentence(9, "The SUM of a DAY: what its JOURNEYS cost, all added");
        s.whole(0, 0, 0, 0, 0).whole(0, 0, 1000, 0, 4).did("tap", 0, 0, 1439, 0, 1).did("tap", 0, 1, 0, 0, 0);
        // The out of DAY 0 is MENDED as from 0, the in of DAY 1 as to 4.
        s.due(200 + 450 + 200, "day", 0, 0, 0).due(400, "day", 0, 1, 0).due(0, "day", 0, 2, 0).due(0, "day", 1, 0, 0);
        s.anew().whole(3, 27, 1438, 0, 0).due(200, "day", 3, 27, 0).due(0, "day", 3, 26, 0).due(0, "day", 3, 0, 0);
    }

    private void sumAtItsMost() {
        Sentence s = book.sentence(9, "all added");
        s.did("price", 0, 5, 9999).did("price", 3, 0, 9999).did("price", 1, 5, 9999).did("price", 2, 5, 9999);
        for (int i = 0; i < 48; i++) {
            s.did("tap", 1, 0, 420 + i, 0, 0);
        }
        s.dueDay(1, 0, 48 * 19998, 5, 9999, 0).due(48 * 19998 - 9999, "saved", 1, 0);
    }

    private void widthOfADay() {
        Sentence s = book.sentence(9, "its WIDTH: the greatest of theirs (0: there is none)");
        s.due(0, "day", 0, 9, 1).whole(0, 9, 0, 0, 0).due(1, "day", 0, 9, 1).whole(0, 9, 100, 0, 3);
        s.due(4, "day", 0, 9, 1).whole(0, 9, 200, 0, 1).due(4, "day", 0, 9, 1).did("tap", 0, 9, 300, 5, 0);
        s.due(5, "day", 0, 9, 1).did("untap", 0, 9, 300).due(4, "day", 0, 9, 1).due(0, "day", 0, 8, 1);
        s.due(0, "day", 0, 10, 1);
        // Two JOURNEYS, in ZONE 1 and in ZONE 5, are each as narrow as can be, and so is the DAY.
        s.anew().whole(0, 9, 0, 0, 0).whole(0, 9, 100, 4, 4).due(1, "day", 0, 9, 1);
    }

    private void capIfLess() {
        Sentence s = book.sentence(9, "It OWES its SUM, or the CAP of its WIDTH, if that is less.");
        s.whole(0, 2, 0, 0, 0).whole(0, 2, 100, 0, 0).dueDay(0, 2, 400, 1, 400, 0);
        s.did("price", 1, 1, 401).due(400, "day", 0, 2, 2).did("price", 1, 1, 400).due(400, "day", 0, 2, 2);
        s.did("price", 1, 1, 399).dueDay(0, 2, 400, 1, 399, 0).did("price", 1, 1, 0).dueDay(0, 2, 400, 1, 0, 0);
        s.did("price", 1, 1, 9999).dueDay(0, 2, 400, 1, 400, 0).due(0, "day", 0, 3, 2);
        s.did("price", 0, 1, 0).dueDay(0, 2, 0, 1, 0, 0);
    }

    private void capOfItsWidth() {
        Sentence s = book.sentence(9, "the CAP of its WIDTH");
        for (int width = 1; width <= 5; width++) {
            s.anew().whole(0, 0, 0, 0, width - 1).whole(0, 0, 100, 0, 0);
            for (int w = 1; w <= 5; w++) {
                s.did("price", 1, w, w);
            }
            s.due(width, "day", 0, 0, 2);
        }
    }

    private void ofAWeekOfTheBest() {
        Sentence s = book.sentence(9, "whether it is of a WEEK of THE BEST (3: 1, 0)");
        days(s, 300, 0, 6, 7, 21, 27).dueBest(0, 300 + 200 + 300, 0, 21);
        for (int day = 0; day < 28; day++) {
            s.due(day <= 6 || day >= 21 ? 1 : 0, "day", 0, day, 3).due(0, "day", 1, day, 3);
        }
        days(s, 300, 8, 14);
        for (int day = 0; day < 28; day++) {
            s.due(day >= 8 && day <= 14 ? 1 : 0, "day", 0, day, 3);
        }
        s.did("price", 2, 1, 400);
        for (int day = 0; day < 28; day++) {
            s.due(0, "day", 0, day, 3);
        }
    }

    private void dayOutside() {
        Sentence s = book.sentence(9, "OUTSIDE: both");
        s.did("tap", 0, 0, 0, 0, 0).did("tap", 0, 27, 0, 0, 0).due(400, "day", 0, 0, 0).due(400, "day", 0, 27, 0);
        for (int day : Sentence.beyond(0, 27)) {
            s.due(OUTSIDE, "day", 0, day, 0).due(OUTSIDE, "day", 0, day, 3);
        }
        for (int what : Sentence.beyond(0, 3)) {
            s.due(OUTSIDE, "day", 0, 0, what).due(OUTSIDE, "day", 0, 27, what);
        }
    }

    private void dayOfWhichCard() {
        Sentence s = book.sentence(9, "UNKNOWN");
        for (int card = 0; card < 4; card++) {
            s.whole(card, 5, 0, 0, card).dueDay(card, 5, 200 + 50 * card, card + 1, 200 + 50 * card, 0);
        }
        for (int card : Sentence.beyond(0, 3)) {
            s.due(UNKNOWN, "day", card, 5, 0);
        }
    }

    private void weekFromWhichDay() {
        Sentence s = book.sentence(10, "beginning on DAY 0 to 21");
        for (int day = 0; day < 28; day++) {
            days(s, 0, day).dueBest(0, 0, Math.max(0, day - 6));
        }
    }

    private void weekAtTheLastDays() {
        Sentence s = book.sentence(10, "WEEKS, each seven DAYS in a row, beginning on DAY 0 to 21");
        // A WEEK that began on 22 would be of WIDTH 1; the last that may begins on 21, which is of WIDTH 5.
        days(s, 300, 22, 27).whole(0, 21, 0, 0, 4).dueBest(0, 400 + 400);
        days(s, 300, 21, 27).whole(0, 20, 0, 0, 4).dueBest(0, 300 + 400, 21);
        days(s, 300, 0, 6).whole(0, 7, 0, 0, 4).dueBest(0, 300 + 400, 0);
    }

    private void weekIsSevenDays() {
        Sentence s = book.sentence(10, "WEEKS, each seven DAYS in a row");
        for (int first = 0; first <= 21; first++) {
            days(s, 399, first, first + 6).dueBest(0, 399, first);
        }
        for (int first = 0; first <= 20; first++) {
            days(s, 399, first, first + 7).dueBest(0, 400);
        }
    }

    private void noDayTogether() {
        Sentence s = book.sentence(10, "no two of which have a DAY together");
        days(s, 300, 0, 6, 7, 13).dueBest(0, 600, 0, 7);
        days(s, 300, 0, 6, 12).dueBest(0, 500, 0);
        // WEEKS from 0 and from 5 would pay for all but DAY 13, and cost 1000; they have 5 and 6 together.
        days(s, 300, 0, 1, 6, 7, 11).whole(0, 13, 0, 0, 4).dueBest(0, 300 + 400 + 400, 0);
    }

    private void weekOfTheGreatestWidth() {
        Sentence s = book.sentence(10, "for each WEEK, the WEEK of the greatest WIDTH of its DAYS");
        for (int width = 1; width <= 5; width++) {
            for (int day = 0; day < 7; day++) {
                s.anew();
                for (int w = 1; w <= 5; w++) {
                    s.did("price", 2, w, w);
                }
                for (int d = 0; d < 7; d++) {
                    s.whole(0, d, 0, 0, d == day ? width - 1 : 0);
                }
                s.dueBest(0, width, 0);
            }
        }
    }

    private void nothingIfAllAreNothing() {
        Sentence s = book.sentence(10, "(nothing, if all are 0)");
        for (int price : new int[] {0, 9999}) {
            s.anew();
            for (int w = 1; w <= 5; w++) {
                s.did("price", 2, w, price);
            }
            // As dear as no WEEK at all, so the PLAN of none is THE BEST.
            s.dueBest(0, 0).due(0, "count", 7).due(0, "day", 0, 0, 3);
        }
        days(s, 0, 0, 27).dueBest(0, 0, 0, 21);
    }

    private void eachOtherDayOwes() {
        Sentence s = book.sentence(10, "and for each other DAY what that OWES");
        s.did("price", 1, 1, 250).did("price", 2, 1, 499);
        for (int day : new int[] {0, 8, 10}) {
            s.whole(0, day, 0, 0, 0).whole(0, day, 100, 0, 0);
        }
        s.dueBest(0, 250 + 499, 4).did("price", 2, 1, 500).dueBest(0, 750);
    }

    private void leastCost() {
        Sentence s = book.sentence(10, "THE BEST: the PLAN of the least cost");
        days(s, 199, 5).dueBest(0, 199, 0).did("price", 2, 1, 200).dueBest(0, 200).did("price", 2, 1, 201);
        s.dueBest(0, 200);
        days(s, 350, 2, 3, 9, 10).dueBest(0, 700, 0, 7);
        // One WEEK that begins later is cheaper here than two that begin earlier.
        days(s, 350, 3, 4, 8, 9).dueBest(0, 350, 3);
        days(s, 350, 0, 4, 5, 6, 7, 8, 9, 10).dueBest(0, 350 + 200, 4);
    }

    private void fewestWeeks() {
        Sentence s = book.sentence(10, "of as little cost that of fewest WEEKS");
        days(s, 200, 0).dueBest(0, 200);
        days(s, 200, 0, 6, 10).dueBest(0, 400, 0);
        days(s, 400, 0, 1, 8, 9, 10).dueBest(0, 800, 4);
        days(s, 400, 0, 6, 7, 13, 14, 20, 21, 27).dueBest(0, 1600);
        days(s, 600, 0, 1, 2, 9, 10, 11, 12, 20, 21, 22).dueBest(0, 600 + 600 + 600, 6);
        // For nothing, and yet a WEEK that is not needed is not taken.
        days(s, 0, 3, 9).dueBest(0, 0, 3);
        days(s, 0, 3, 10).dueBest(0, 0, 0, 7);
    }

    private void firstWeekEarliest() {
        Sentence s = book.sentence(10, "of as few that whose first WEEK begins earliest");
        days(s, 300, 10, 11).dueBest(0, 300, 5);
        days(s, 300, 6, 7).dueBest(0, 300, 1);
        days(s, 300, 5, 6).dueBest(0, 300, 0);
        days(s, 300, 0, 5, 10).dueBest(0, 500, 0);
        days(s, 300, 26, 27).dueBest(0, 300, 21);
        // A wide DAY ahead keeps it from beginning earlier.
        days(s, 300, 10, 11).whole(0, 8, 0, 0, 4).dueBest(0, 700, 9);
    }

    private void laterWeeksEarliest() {
        Sentence s = book.sentence(10, "then the second one, and so on");
        days(s, 300, 0, 1, 20, 21).dueBest(0, 600, 0, 15);
        days(s, 300, 3, 4, 12, 13, 22, 23).dueBest(0, 900, 0, 7, 17);
        days(s, 300, 1, 7, 8, 14).dueBest(0, 600, 1, 8);
        days(s, 300, 0, 1, 10, 15, 20).dueBest(0, 300 + 300 + 200, 0, 9);
        days(s, 300, 0, 1, 7, 8, 14, 19, 24).dueBest(0, 300 + 300 + 300 + 200, 0, 7, 14);
    }

    private void mostWeeks() {
        Sentence s = book.sentence(10, "on which DAY the k-th WEEK begins, from 0 on (10 and k, k to 3; NONE)");
        s.due(NONE, "best", 0, 10).due(NONE, "best", 0, 13);
        days(s, 300, 0, 6, 7, 13, 14, 20, 21, 27).dueBest(0, 1200, 0, 7, 14, 21);
        s.did("untap", 0, 27, 0).did("untap", 0, 27, 1).dueBest(0, 900 + 200, 0, 7, 14);
        s.due(NONE, "best", 0, 13).did("untap", 0, 0, 0).did("untap", 0, 0, 1).dueBest(0, 900, 1, 8, 15);
    }

    private void bestOutside() {
        Sentence s = book.sentence(10, "UNKNOWN; OUTSIDE.");
        days(s, 300, 0, 6, 7, 13, 14, 20, 21, 27);
        for (int what = 2; what < 10; what++) {
            s.due(OUTSIDE, "best", 0, what);
        }
        for (int what : Sentence.beyond(0, 13)) {
            s.due(OUTSIDE, "best", 0, what);
        }
        s.dueBest(0, 1200, 0, 7, 14, 21);
    }

    private void bestOfWhichCard() {
        Sentence s = book.sentence(10, "UNKNOWN");
        for (int card = 0; card < 4; card++) {
            s.whole(card, 5, 0, 0, card).dueBest(card, 200 + 50 * card);
        }
        for (int card : Sentence.beyond(0, 3)) {
            s.due(UNKNOWN, "best", card, 0).due(UNKNOWN, "best", card, 10);
        }
    }

    private void savedByCaps() {
        Sentence s = book.sentence(11,
            "By how much less all DAYS of a CARD together OWE than they have as SUMS (what = 0)");
        s.due(0, "saved", 0, 0);
        for (int day : new int[] {0, 13, 27}) {
            s.whole(0, day, 0, 0, 0).whole(0, day, 100, 0, 0);
        }
        s.did("price", 1, 1, 400).due(0, "saved", 0, 0).did("price", 1, 1, 399).due(3, "saved", 0, 0);
        s.did("price", 1, 1, 0).due(1200, "saved", 0, 0).due(0, "saved", 1, 0);
        // A WEEK saves nothing here: what DAYS of it would OWE still counts.
        s.did("price", 1, 1, 399).did("price", 2, 1, 0).due(3, "saved", 0, 0);
    }

    private void savedByWeeks() {
        Sentence s = book.sentence(11, "THE BEST COSTS than all DAYS OWE (1)");
        s.due(0, "saved", 0, 1);
        days(s, 400, 0, 6, 21, 27).due(0, "saved", 0, 1).did("price", 2, 1, 399).due(2, "saved", 0, 1);
        s.did("price", 2, 1, 0).due(800, "saved", 0, 1).due(0, "saved", 0, 0).due(0, "saved", 1, 1);
        s.did("price", 1, 1, 150).due(600, "saved", 0, 1).due(200, "saved", 0, 0);
    }

    private void savedOutside() {
        Sentence s = book.sentence(11, "UNKNOWN; OUTSIDE.");
        for (int what : Sentence.beyond(0, 1)) {
            s.due(OUTSIDE, "saved", 0, what).due(OUTSIDE, "saved", 3, what);
        }
    }

    private void savedOfWhichCard() {
        Sentence s = book.sentence(11, "UNKNOWN");
        s.did("price", 1, 1, 100).did("price", 2, 1, 50);
        for (int card = 0; card < 4; card++) {
            s.whole(card, 5, 0, 0, 0).due(100, "saved", card, 0).due(50, "saved", card, 1);
        }
        for (int card : Sentence.beyond(0, 3)) {
            s.due(UNKNOWN, "saved", card, 0).due(UNKNOWN, "saved", card, 1);
        }
    }

    private void wouldBeAsMuch() {
        Sentence s = book.sentence(12, "100000 added");
        s.did("price", 0, 5, 0).due(100000, "would", 0, 0, 0, 0, 0).did("price", 0, 5, 1);
        s.due(100001, "would", 0, 0, 0, 0, 0);
        s.anew().did("price", 1, 5, 0).due(100000, "would", 0, 27, 1439, 7, 1);
        s.anew().did("price", 2, 5, 400).did("tap", 0, 0, 0, 0, 0).due(100000, "would", 0, 6, 0, 0, 0);
        s.due(100400, "would", 0, 7, 0, 0, 0);
    }

    private void wouldBeMore() {
        Sentence s = book.sentence(12, "By how much more");
        s.due(100400, "would", 0, 0, 419, 0, 0).due(100450, "would", 0, 0, 420, 0, 0);
        s.due(100450, "would", 0, 0, 569, 0, 1);
        s.due(100400, "would", 0, 0, 570, 0, 1).due(100400, "would", 0, 5, 420, 0, 0);
        s.did("tap", 0, 0, 0, 0, 0).did("tap", 0, 0, 1, 0, 0).due(100100, "would", 0, 0, 2, 0, 0);
        s.did("tap", 0, 0, 2, 0, 0).due(100000, "would", 0, 0, 3, 0, 0);
    }

    private void wouldBeLess() {
        Sentence s = book.sentence(12, "(below 0: less; 100000 added)");
        s.did("tap", 0, 0, 10, 0, 0).due(100000 - 200, "would", 0, 0, 11, 0, 1);
        s.due(100000 - 150, "would", 0, 0, 11, 1, 1);
        s.due(100000, "would", 0, 0, 11, 4, 1).due(100400, "would", 0, 0, 9, 0, 1).due(100400, "would", 0, 1, 11, 0, 1);
        s.did("price", 0, 1, 399).due(99999, "would", 0, 0, 11, 0, 1);
    }

    private void wouldBeMostMoreAndMostLess() {
        Sentence s = book.sentence(12,
            "By how much more (below 0: less; 100000 added) THE BEST of a CARD would COST with one TAP more.");
        dearLame(s.anew());
        for (int day = 0; day < 28; day++) {
            s.did("tap", 0, day, 0, 0, 0);
        }
        s.dueBest(0, 4 * 9999, 0, 7, 14, 21).due(100000 - 4 * 9999, "would", 0, 0, 1, 0, 1);
        dearLame(s.anew()).did("tap", 0, 0, 0, 0, 0).did("tap", 0, 0, 2, 0, 1);
        for (int day = 1; day < 28; day++) {
            s.did("tap", 0, day, 0, 0, 0);
        }
        // A TAP in at another STATION between takes away the one WHOLE RIDE that mends all others.
        s.dueBest(0, 0).due(100000 + 4 * 9999, "would", 0, 0, 1, 4, 0).dueBest(0, 0);
    }

    private static Sentence dearLame(Sentence s) {
        s.did("price", 0, 1, 0);
        return s.did("price", 0, 5, 9999).did("price", 1, 5, 9999).did("price", 2, 5, 9999);
    }

    private void wouldAsWithTap() {
        Sentence s = book.sentence(12, "UNKNOWN, OUTSIDE, NO, FULL as with tap().");
        s.did("tap", 0, 1, 1, 1, 1);
        for (int card : Sentence.beyond(0, 3)) {
            s.due(UNKNOWN, "would", card, 0, 0, 0, 0);
        }
        for (int station : Sentence.beyond(0, 7)) {
            s.due(UNKNOWN, "would", 0, 0, 0, station, 0);
        }
        for (int day : Sentence.beyond(0, 27)) {
            s.due(OUTSIDE, "would", 0, day, 0, 0, 0);
        }
        for (int minute : Sentence.beyond(0, 1439)) {
            s.due(OUTSIDE, "would", 0, 0, minute, 0, 0);
        }
        for (int way : Sentence.beyond(0, 1)) {
            s.due(OUTSIDE, "would", 0, 0, 0, 0, way);
        }
        s.due(NO, "would", 0, 1, 1, 1, 1).due(NO, "would", 0, 1, 1, 0, 0).due(OUTSIDE, "would", 0, 0, 1441, 1, 1);
        s.due(100400, "would", 0, 1, 2, 0, 0).due(100400, "would", 0, 2, 1, 0, 0).due(100400, "would", 3, 1, 1, 7, 0);
    }

    private void wouldWhenFull() {
        Sentence s = book.sentence(12, "FULL as with tap()");
        s.did("price", 1, 5, 0);
        for (int i = 0; i < 48; i++) {
            s.due(100000, "would", 0, 0, i, 0, 0).due(i + 1, "tap", 0, 0, i, 0, 0);
        }
        s.due(FULL, "would", 0, 0, 48, 0, 0).due(FULL, "would", 0, 27, 1439, 0, 1).due(NO, "would", 0, 0, 47, 0, 0);
        s.due(47, "untap", 0, 0, 20).due(100000, "would", 0, 0, 20, 0, 0).due(100000, "would", 0, 0, 48, 0, 0);
        s.due(48, "tap", 0, 0, 20, 0, 0).due(FULL, "would", 0, 0, 48, 0, 0);
    }

    private void wouldChangesNothing() {
        Sentence s = book.sentence(12, "would COST with one TAP more");
        s.did("tap", 0, 3, 10, 0, 0).did("tap", 0, 5, 10, 1, 1).due(99800, "would", 0, 3, 11, 0, 1);
        s.due(2, "count", 0).dueTap(0, 0, 3, 10, 0, 0).dueTap(0, 1, 5, 10, 1, 1).due(NONE, "told", 0, 2, 0);
        s.dueRide(0, 0, 0, NONE, 1, 1, 0).dueDay(0, 3, 400, 5, 400, 0).due(800, "best", 0, 0).due(800, "count", 7);
        s.due(99800, "would", 0, 3, 11, 0, 1).due(3, "tap", 0, 3, 11, 0, 1).due(600, "best", 0, 0);
    }
}
