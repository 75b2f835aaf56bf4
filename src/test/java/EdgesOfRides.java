/** Promises 7 and 8: ride, journey; a method for each sentence that names an edge. */
final class EdgesOfRides {
    private static final int UNKNOWN = Sentence.UNKNOWN, OUTSIDE = Sentence.OUTSIDE, NONE = Sentence.NONE;

    private final Book book;

    EdgesOfRides(Book book) {
        this.book = book;
    }

    void run() {
        inAndTheNextOut();
        ofTheSameDay();
        inWithoutThat();
        outThatEndsNone();
        mendedAtItsEnd();
        mendedAtItsBeginning();
        mendedFromAheadAlone();
        mendedByTheLast();
        mendedByWholeRidesAlone();
        mendedByItsOwnCard();
        staysLame();
        howManyRides();
        noSuchRide();
        rideOutside();
        rideOfWhichCard();
        ofWhichJourney();
        bothAreWhole();
        ofOneDay();
        noMoreThanNear();
        nearAtItsLeast();
        nearAtItsMost();
        whereThatEnded();
        fewerThanThree();
        widthOfStations();
        widthOfAllItsRides();
        widthOfMended();
        lameWidth();
        busyMinutes();
        freeDays();
        moreByItsBeginning();
        moreForLame();
        whereThereIsOneTap();
        howManyJourneys();
        noSuchJourney();
        journeyOutside();
        journeyOfWhichCard();
    }

    private void inAndTheNextOut() {
        Sentence s = book.sentence(7, "a TAP in, and the next TAP, if this is out, and of the same DAY: a WHOLE RIDE");
        s.did("tap", 0, 0, 10, 1, 0).did("tap", 0, 0, 20, 2, 1).dueRide(0, 0, 1, 2, 0, 0, 0).due(1, "ride", 0, -1, 0);
        s.did("tap", 0, 0, 15, 3, 0).dueRide(0, 0, 1, NONE, 1, 1, 0).dueRide(0, 1, 3, 2, 0, 0, 1);
        s.due(2, "ride", 0, -1, 0).did("untap", 0, 0, 15);
        s.did("tap", 0, 0, 15, 3, 1).dueRide(0, 0, 1, 3, 0, 0, 0).dueRide(0, 1, NONE, 2, 2, 1, 1);
        s.due(2, "ride", 0, -1, 0);
        s.anew().did("tap", 0, 0, 10, 4, 0).did("tap", 0, 0, 11, 4, 1).dueRide(0, 0, 4, 4, 0, 0, 0);
    }

    private void ofTheSameDay() {
        Sentence s = book.sentence(7, "and of the same DAY");
        s.did("tap", 0, 3, 0, 1, 0).did("tap", 0, 3, 1439, 2, 1).dueRide(0, 0, 1, 2, 0, 0, 0);
        s.anew().did("tap", 0, 3, 1439, 1, 0).did("tap", 0, 4, 0, 2, 1);
        s.dueRide(0, 0, 1, NONE, 1, 1, 0).dueRide(0, 1, NONE, 2, 2, 1, 1).due(2, "ride", 0, -1, 0);
        s.anew().did("tap", 0, 3, 600, 1, 0).did("tap", 0, 4, 601, 2, 1).due(2, "ride", 0, -1, 0);
        s.anew().did("tap", 0, 0, 600, 1, 0).did("tap", 0, 27, 600, 2, 1).due(2, "ride", 0, -1, 0);
    }

    private void inWithoutThat() {
        Sentence s = book.sentence(7, "a TAP in without that: a RIDE that lacks its end");
        s.did("tap", 0, 27, 1439, 6, 0).dueRide(0, 0, 6, NONE, 1, 1, 0);
        s.did("tap", 0, 27, 1438, 5, 0).dueRide(0, 0, 5, NONE, 1, 1, 0).dueRide(0, 1, 6, NONE, 1, 1, 1);
    }

    private void outThatEndsNone() {
        Sentence s = book.sentence(7, "a TAP out that ends no RIDE: a RIDE that lacks its beginning");
        s.did("tap", 0, 0, 0, 6, 1).dueRide(0, 0, NONE, 6, 2, 1, 0);
        s.did("tap", 0, 0, 1, 5, 1).dueRide(0, 1, NONE, 5, 2, 1, 1);
        s.did("tap", 0, 1, 0, 1, 0).did("tap", 0, 1, 1, 2, 1).did("tap", 0, 1, 2, 3, 1);
        s.dueRide(0, 2, 1, 2, 0, 0, 2).dueRide(0, 3, NONE, 3, 2, 1, 3).due(4, "ride", 0, -1, 0);
    }

    private void mendedAtItsEnd() {
        Sentence s = book.sentence(7, "A RIDE that lacks its end (its beginning) is MENDED .. began (ended) at the"
            + " same STATION, the last one tells where it ended (began)");
        s.whole(0, 0, 10, 1, 2).did("tap", 0, 0, 12, 1, 0).dueRide(0, 1, 1, 2, 1, 0, 1);
        s.did("tap", 0, 27, 1439, 1, 0).dueRide(0, 2, 1, 2, 1, 0, 2);
        // One that ended there, and one that began at another STATION of the ZONE, are none such.
        s.did("tap", 0, 2, 0, 2, 0).dueRide(0, 2, 2, NONE, 1, 1, 2);
        s.did("tap", 0, 3, 0, 6, 0).dueRide(0, 3, 6, NONE, 1, 1, 3);
        for (int station = 0; station < 8; station++) {
            s.anew().whole(0, 0, 0, station, 7 - station).did("tap", 0, 1, 0, station, 0);
            s.dueRide(0, 1, station, 7 - station, 1, 0, 1);
        }
    }

    private void mendedAtItsBeginning() {
        Sentence s = book.sentence(7, "lacks its end (its beginning) is MENDED");
        s.whole(0, 0, 10, 1, 2).did("tap", 0, 0, 12, 2, 1).dueRide(0, 1, 1, 2, 2, 0, 1);
        s.did("tap", 0, 27, 1439, 2, 1).dueRide(0, 2, 1, 2, 2, 0, 2);
        s.did("tap", 0, 2, 0, 1, 1).dueRide(0, 2, NONE, 1, 2, 1, 2);
        s.did("tap", 0, 3, 0, 7, 1).dueRide(0, 3, NONE, 7, 2, 1, 3);
        for (int station = 0; station < 8; station++) {
            s.anew().whole(0, 0, 0, 7 - station, station).did("tap", 0, 1, 0, station, 1);
            s.dueRide(0, 1, 7 - station, station, 2, 0, 1);
        }
    }

    private void mendedFromAheadAlone() {
        Sentence s = book.sentence(7, "of all WHOLE RIDES of the CARD that are ahead of it (by their TAPS)");
        // The one ahead may come later as a call; one behind may come earlier.
        s.did("tap", 0, 5, 100, 1, 0).did("tap", 0, 6, 100, 2, 1);
        s.whole(0, 7, 10, 1, 2).dueRide(0, 0, 1, NONE, 1, 1, 0).dueRide(0, 1, NONE, 2, 2, 1, 1);
        s.whole(0, 5, 101, 1, 2).dueRide(0, 0, 1, NONE, 1, 1, 0).dueRide(0, 2, 1, 2, 2, 0, 2);
        s.whole(0, 5, 98, 1, 2).dueRide(0, 1, 1, 2, 1, 0, 1).did("untap", 0, 5, 99);
        s.dueRide(0, 0, 1, NONE, 1, 1, 0).dueRide(0, 1, 1, NONE, 1, 1, 1);
    }

    private void mendedByTheLast() {
        Sentence s = book.sentence(7, "the last one tells where it ended (began)");
        s.whole(0, 3, 0, 1, 4).whole(0, 1, 0, 1, 3).whole(0, 2, 0, 1, 5).did("tap", 0, 4, 0, 1, 0);
        s.dueRide(0, 3, 1, 4, 1, 0, 3).did("untap", 0, 3, 1).dueRide(0, 3, 1, 5, 1, 0, 3);
        s.did("untap", 0, 2, 1).dueRide(0, 3, 1, 3, 1, 0, 3).did("untap", 0, 1, 1).dueRide(0, 3, 1, NONE, 1, 1, 3);
        s.anew().whole(0, 3, 0, 4, 1).whole(0, 1, 0, 3, 1).whole(0, 2, 0, 5, 1).did("tap", 0, 4, 0, 1, 1);
        s.dueRide(0, 3, 4, 1, 2, 0, 3).did("untap", 0, 3, 0).dueRide(0, 3, 5, 1, 2, 0, 3);
        s.did("untap", 0, 2, 0).dueRide(0, 3, 3, 1, 2, 0, 3).did("untap", 0, 1, 0).dueRide(0, 3, NONE, 1, 2, 1, 3);
    }

    private void mendedByWholeRidesAlone() {
        Sentence s = book.sentence(7, "of all WHOLE RIDES");
        // The out at 2 is mended as from 1; it is no WHOLE RIDE from 1, so the in at 1 goes by the one to 3.
        s.whole(0, 0, 0, 1, 2).whole(0, 1, 0, 1, 3).did("tap", 0, 2, 0, 2, 1).did("tap", 0, 3, 0, 1, 0);
        s.dueRide(0, 2, 1, 2, 2, 0, 2).dueRide(0, 3, 1, 3, 1, 0, 3);
        // The in at 1 is mended as to 2; it is no WHOLE RIDE to 2, so the out at 2 goes by the one from 4.
        s.anew().whole(0, 0, 0, 1, 2).whole(0, 1, 0, 4, 2).did("tap", 0, 2, 0, 1, 0).did("tap", 0, 3, 0, 2, 1);
        s.dueRide(0, 2, 1, 2, 1, 0, 2).dueRide(0, 3, 4, 2, 2, 0, 3);
    }

    private void mendedByItsOwnCard() {
        Sentence s = book.sentence(7, "of all WHOLE RIDES of the CARD");
        s.whole(0, 0, 0, 1, 2).did("tap", 1, 1, 0, 1, 0).did("tap", 1, 2, 0, 2, 1);
        s.dueRide(1, 0, 1, NONE, 1, 1, 0).dueRide(1, 1, NONE, 2, 2, 1, 1);
        s.due(0, "ride", 0, 0, 3).dueRide(1, 0, 1, NONE, 1, 1, 0);
    }

    private void staysLame() {
        Sentence s = book.sentence(7, "if there is none, it stays LAME");
        s.did("tap", 2, 0, 0, 0, 0).dueRide(2, 0, 0, NONE, 1, 1, 0).did("tap", 2, 1, 0, 0, 1);
        s.dueRide(2, 1, NONE, 0, 2, 1, 1).whole(2, 2, 0, 0, 0).dueRide(2, 0, 0, NONE, 1, 1, 0);
        s.dueRide(2, 1, NONE, 0, 2, 1, 1).did("tap", 2, 3, 0, 0, 0).dueRide(2, 3, 0, 0, 1, 0, 3);
    }

    private void howManyRides() {
        Sentence s = book.sentence(7, "i = -1: how many there are");
        for (int what = 0; what < 5; what++) {
            s.due(0, "ride", 0, -1, what);
        }
        for (int i = 0; i < 48; i++) {
            s.did("tap", 0, i % 28, i, 0, 1).did("tap", 1, i / 2, i % 2, 0, i % 2);
        }
        for (int what = 0; what < 5; what++) {
            s.due(48, "ride", 0, -1, what).due(24, "ride", 1, -1, what).due(0, "ride", 2, -1, what);
        }
    }

    private void noSuchRide() {
        Sentence s = book.sentence(7, "NONE: there is none such");
        for (int what = 0; what < 5; what++) {
            s.anew().due(NONE, "ride", 0, 0, what).whole(0, 0, 0, 0, 0).due(NONE, "ride", 0, 1, what);
            s.did("tap", 0, 1, 0, 0, 0).due(NONE, "ride", 0, 2, what).due(NONE, "ride", 0, 48, what);
            s.due(NONE, "ride", 0, 65536, what).due(NONE, "ride", 0, Integer.MAX_VALUE, what);
        }
        for (int i = 0; i < 48; i++) {
            s.did("tap", 1, 0, i, 0, 0);
        }
        s.dueRide(1, 47, 0, NONE, 1, 1, 47).dueRide(1, 48, NONE, NONE, NONE, NONE, NONE);
    }

    private void rideOutside() {
        Sentence s = book.sentence(7, "OUTSIDE: i is below -1, what.");
        s.whole(0, 0, 0, 0, 1).dueRide(0, 0, 0, 1, 0, 0, 0);
        for (int i : new int[] {-2, -3, -49, Integer.MIN_VALUE, Integer.MIN_VALUE + 1}) {
            s.due(OUTSIDE, "ride", 0, i, 0).due(OUTSIDE, "ride", 0, i, 4);
        }
        for (int what : Sentence.beyond(0, 4)) {
            s.due(OUTSIDE, "ride", 0, 0, what).due(OUTSIDE, "ride", 0, -1, what);
        }
    }

    private void rideOfWhichCard() {
        Sentence s = book.sentence(7, "UNKNOWN");
        for (int card = 0; card < 4; card++) {
            s.whole(card, 0, 0, card, card + 1).dueRide(card, 0, card, card + 1, 0, 0, 0);
        }
        for (int card : Sentence.beyond(0, 3)) {
            s.due(UNKNOWN, "ride", card, 0, 0).due(UNKNOWN, "ride", card, -1, 0);
        }
    }

    private void ofWhichJourney() {
        Sentence s = book.sentence(7, "of the how manieth JOURNEY it is, from 0 on (4)");
        s.whole(0, 0, 0, 0, 1).whole(0, 0, 10, 1, 2).whole(0, 0, 20, 3, 3).did("tap", 0, 0, 22, 3, 0);
        s.whole(0, 0, 30, 3, 4).whole(0, 1, 0, 4, 4);
        int[] journeys = {0, 0, 1, 2, 3, 4};
        for (int i = 0; i < journeys.length; i++) {
            s.due(journeys[i], "ride", 0, i, 4);
        }
        s.due(5, "journey", 0, -1, 0);
    }

    private void bothAreWhole() {
        Sentence s = book.sentence(8, "a RIDE is of the JOURNEY of the one before, if both are WHOLE");
        s.whole(0, 0, 0, 1, 1).whole(0, 0, 2, 1, 1).due(1, "journey", 0, -1, 0);
        // The second lacks its end, then the first its beginning; MENDED they are as near, and yet apart.
        s.did("untap", 0, 0, 3).due(0, "ride", 0, 1, 3).due(2, "journey", 0, -1, 0);
        s.anew().whole(0, 0, 0, 1, 1).did("tap", 0, 1, 10, 1, 1).whole(0, 1, 12, 1, 1);
        s.due(0, "ride", 0, 1, 3).due(3, "journey", 0, -1, 0).did("tap", 0, 1, 9, 1, 0).due(2, "journey", 0, -1, 0);
        s.anew().whole(0, 0, 0, 1, 1).did("tap", 0, 1, 10, 1, 0).did("tap", 0, 1, 11, 1, 0).due(3, "journey", 0, -1, 0);
        // One that lacks an end stands between two WHOLE ones, so that neither is the one before the other.
        s.anew().whole(0, 0, 0, 1, 1).did("tap", 0, 0, 2, 1, 0).whole(0, 0, 3, 1, 1).due(3, "journey", 0, -1, 0);
    }

    private void ofOneDay() {
        Sentence s = book.sentence(8, "and of one DAY");
        s.did("price", 4, 0, 200).whole(0, 3, 1438, 1, 1).whole(0, 4, 0, 1, 1).due(2, "journey", 0, -1, 0);
        s.dueJourney(0, 0, 3, 1, 1, 200, 0).dueJourney(0, 1, 4, 1, 1, 200, 0);
        s.whole(0, 3, 1436, 1, 1).due(2, "journey", 0, 0, 1).due(2, "journey", 0, -1, 0);
        s.whole(0, 5, 1436, 1, 1).whole(0, 6, 1438, 1, 1).due(4, "journey", 0, -1, 0);
    }

    private void noMoreThanNear() {
        Sentence s = book.sentence(8, "if it begins no more than NEAR minutes behind the end of that one");
        for (int near : new int[] {1, 2, 29, 30, 31, 199, 200}) {
            s.anew().did("price", 4, 0, near).did("tap", 0, 0, 100, 1, 0).did("tap", 0, 0, 400, 1, 1);
            s.did("tap", 0, 0, 400 + near, 1, 0).did("tap", 0, 0, 1000, 1, 1).due(1, "journey", 0, -1, 0);
            s.did("price", 4, 0, near - 1).due(2, "journey", 0, -1, 0);
            s.did("price", 4, 0, near).did("untap", 0, 0, 400 + near).did("tap", 0, 0, 401 + near, 1, 0);
            s.due(2, "journey", 0, -1, 0);
        }
        // It is the end of the one before that counts, not the beginning of the JOURNEY.
        s.anew();
        for (int i = 0; i < 3; i++) {
            s.whole(0, 0, 31 * i, 1, 1);
        }
        s.due(1, "journey", 0, -1, 0).due(3, "journey", 0, 0, 1);
    }

    private void nearAtItsLeast() {
        Sentence s = book.sentence(8, "no more than NEAR minutes");
        s.did("price", 4, 0, 0).whole(0, 0, 0, 1, 1).whole(0, 0, 2, 1, 1).due(2, "journey", 0, -1, 0);
        s.did("price", 4, 0, 1).due(1, "journey", 0, -1, 0);
    }

    private void nearAtItsMost() {
        Sentence s = book.sentence(8, "NEAR minutes behind the end of that one");
        s.did("price", 4, 0, 200).whole(0, 0, 0, 1, 1).whole(0, 0, 201, 1, 1).due(1, "journey", 0, -1, 0);
        s.whole(0, 0, 403, 1, 1).due(2, "journey", 0, -1, 0).due(OUTSIDE, "price", 4, 0, 201);
        s.due(2, "journey", 0, -1, 0);
    }

    private void whereThatEnded() {
        Sentence s = book.sentence(8, "at the STATION where that ended");
        for (int station = 0; station < 8; station++) {
            s.anew().whole(0, 0, 0, 5, 0).whole(0, 0, 2, station, 5);
            s.due(station == 0 ? 1 : 2, "journey", 0, -1, 0);
        }
    }

    private void fewerThanThree() {
        Sentence s = book.sentence(8, "if that JOURNEY has fewer than 3 RIDES; else it begins another JOURNEY");
        for (int rides = 1; rides <= 24; rides++) {
            s.anew();
            for (int i = 0; i < rides; i++) {
                s.whole(0, 0, 2 * i, 1, 1);
            }
            int last = (rides - 1) / 3;
            s.due(last + 1, "journey", 0, -1, 0).due(rides - 3 * last, "journey", 0, last, 1);
            s.due(last, "ride", 0, rides - 1, 4).due(Math.min(3, rides), "journey", 0, 0, 1);
        }
    }

    private void widthOfStations() {
        Sentence s = book.sentence(8, "A WIDTH is 1 to 5: of STATIONS: the greatest ZONE less the least one, and one.");
        int[] zones = {1, 2, 3, 4, 5, 1, 2, 3};
        for (int from = 0; from < 8; from++) {
            for (int to = 0; to < 8; to++) {
                int width = Math.abs(zones[from] - zones[to]) + 1;
                s.anew().whole(0, 5, 0, from, to).dueJourney(0, 0, 5, 1, width, 150 + 50 * width, 0);
            }
        }
    }

    private void widthOfAllItsRides() {
        Sentence s = book.sentence(8, "A JOURNEY costs the FARE of the WIDTH of all STATIONS of its RIDES");
        int[][] ways = {
            {1, 1, 1, 1}, {1, 4, 1, 1}, {1, 1, 4, 1}, {0, 2, 3, 1}, {3, 2, 2, 0}, {2, 4, 0, 2}, {2, 0, 4, 2}
        };
        int[] widths = {1, 4, 4, 4, 4, 5, 5};
        for (int i = 0; i < ways.length; i++) {
            s.anew();
            for (int ride = 0; ride < 3; ride++) {
                s.whole(0, 0, 2 * ride, ways[i][ride], ways[i][ride + 1]);
            }
            s.dueJourney(0, 0, 0, 3, widths[i], 150 + 50 * widths[i], 0);
        }
    }

    private void widthOfMended() {
        Sentence s = book.sentence(8, "(those that are MENDED, too)");
        s.whole(0, 0, 0, 1, 3).did("tap", 0, 1, 0, 1, 0).did("tap", 0, 2, 0, 3, 1);
        s.dueJourney(0, 1, 1, 1, 3, 300, 0).dueJourney(0, 2, 2, 1, 3, 300, 0);
        s.did("zone", 3, 2).dueJourney(0, 1, 1, 1, 1, 200, 0).dueJourney(0, 2, 2, 1, 1, 200, 0);
        s.did("zone", 1, 5).did("zone", 3, 1).dueJourney(0, 1, 1, 1, 5, 400, 0).dueJourney(0, 2, 2, 1, 5, 400, 0);
    }

    private void lameWidth() {
        Sentence s = book.sentence(8, "A LAME one costs the FARE of WIDTH 5, and MORE likewise; its WIDTH is 5.");
        for (int station = 0; station < 8; station++) {
            s.anew().did("tap", 0, 0, 0, station, 0).did("tap", 0, 1, 0, station, 1);
            s.dueJourney(0, 0, 0, 1, 5, 400, 0).dueJourney(0, 1, 1, 1, 5, 400, 0);
            for (int other = 0; other < 8; other++) {
                s.did("zone", other, 3);
            }
            s.dueJourney(0, 0, 0, 1, 5, 400, 0).dueJourney(0, 1, 1, 1, 5, 400, 0);
            s.did("price", 0, 5, 0).due(0, "journey", 0, 0, 3).did("price", 0, 5, 9999).due(9999, "journey", 0, 1, 3);
        }
    }

    private void busyMinutes() {
        Sentence s = book.sentence(8, "BUSY, if the DAY is not FREE, and it is 420 to 569, or 960 to 1109");
        for (int minute = 0; minute < 1440; minute++) {
            boolean busy = minute >= 420 && minute <= 569 || minute >= 960 && minute <= 1109;
            s.anew().did("tap", 0, 4, minute, 0, 0).dueJourney(0, 0, 4, 1, 5, busy ? 450 : 400, busy ? 1 : 0);
        }
    }

    private void freeDays() {
        Sentence s = book.sentence(8, "DAYS 5, 6, 12, 13, 19, 20, 26, 27 are FREE.");
        for (int day = 0; day < 28; day++) {
            boolean free = false;
            for (int listed : new int[] {5, 6, 12, 13, 19, 20, 26, 27}) {
                free |= day == listed;
            }
            for (int minute : new int[] {420, 500, 569, 960, 1000, 1109}) {
                s.anew().did("tap", 0, day, minute, 0, 1).dueJourney(0, 0, day, 1, 5, free ? 400 : 450, free ? 0 : 1);
            }
        }
    }

    private void moreByItsBeginning() {
        Sentence s = book.sentence(8, "and MORE, if it begins in a BUSY MINUTE");
        // It ends, or goes on, in a BUSY MINUTE, but begins one ahead; and begins in the last, ends behind it.
        s.did("tap", 0, 0, 419, 1, 0).did("tap", 0, 0, 420, 1, 1).dueJourney(0, 0, 0, 1, 1, 200, 0);
        s.whole(0, 0, 430, 1, 1).dueJourney(0, 0, 0, 2, 1, 200, 0);
        s.anew().whole(0, 0, 569, 1, 1).dueJourney(0, 0, 0, 1, 1, 250, 1);
        s.whole(0, 0, 580, 1, 1).dueJourney(0, 0, 0, 2, 1, 250, 1).due(250, "day", 0, 0, 0);
        s.anew().whole(0, 0, 500, 1, 1).whole(0, 0, 510, 1, 1).whole(0, 0, 520, 1, 1).whole(0, 0, 530, 1, 1);
        s.dueJourney(0, 0, 0, 3, 1, 250, 1).dueJourney(0, 1, 0, 1, 1, 250, 1).due(500, "day", 0, 0, 0);
    }

    private void moreForLame() {
        Sentence s = book.sentence(8, "and MORE likewise");
        s.did("tap", 0, 0, 569, 0, 0).did("tap", 0, 0, 570, 0, 0).did("tap", 0, 5, 569, 0, 0);
        s.dueJourney(0, 0, 0, 1, 5, 450, 1).dueJourney(0, 1, 0, 1, 5, 400, 0).dueJourney(0, 2, 5, 1, 5, 400, 0);
        s.did("price", 3, 0, 0).dueJourney(0, 0, 0, 1, 5, 400, 1);
        s.did("price", 3, 0, 9999).dueJourney(0, 0, 0, 1, 5, 10399, 1);
    }

    private void whereThereIsOneTap() {
        Sentence s = book.sentence(8,
            "A RIDE begins at its TAP in, ends at its TAP out; if it lacks one, both are the one that there is.");
        // The MENDED out is BUSY by its own TAP, though the RIDE that mends it was not; and the other way round.
        s.whole(0, 0, 100, 1, 2).did("tap", 0, 3, 420, 2, 1).dueJourney(0, 1, 3, 1, 2, 300, 1);
        s.anew().whole(0, 0, 500, 1, 2).did("tap", 0, 3, 419, 2, 1).dueJourney(0, 1, 3, 1, 2, 250, 0);
        s.anew().did("tap", 0, 27, 1109, 2, 1).dueJourney(0, 0, 27, 1, 5, 400, 0);
        s.anew().did("tap", 0, 25, 1109, 2, 1).dueJourney(0, 0, 25, 1, 5, 450, 1);
    }

    private void howManyJourneys() {
        Sentence s = book.sentence(8, "i = -1: how many there are");
        for (int what = 0; what < 5; what++) {
            s.due(0, "journey", 0, -1, what);
        }
        for (int i = 0; i < 48; i++) {
            s.did("tap", 0, i % 28, i, 0, 1).did("tap", 1, 0, i, 0, i % 2);
        }
        for (int what = 0; what < 5; what++) {
            s.due(48, "journey", 0, -1, what).due(8, "journey", 1, -1, what).due(0, "journey", 2, -1, what);
        }
    }

    private void noSuchJourney() {
        Sentence s = book.sentence(8, "NONE: there is none such");
        for (int what = 0; what < 5; what++) {
            s.anew().due(NONE, "journey", 0, 0, what).whole(0, 0, 0, 0, 0).whole(0, 0, 2, 0, 0);
            s.due(NONE, "journey", 0, 1, what).did("tap", 0, 1, 0, 0, 0).due(NONE, "journey", 0, 2, what);
            s.due(NONE, "journey", 0, 48, what).due(NONE, "journey", 0, 65536, what);
            s.due(NONE, "journey", 0, Integer.MAX_VALUE, what);
        }
        for (int i = 0; i < 48; i++) {
            s.did("tap", 1, 0, i, 0, 0);
        }
        s.dueJourney(1, 47, 0, 1, 5, 400, 0).dueJourney(1, 48, NONE, NONE, NONE, NONE, NONE);
    }

    private void journeyOutside() {
        Sentence s = book.sentence(8, "OUTSIDE: i is below -1, what.");
        s.whole(0, 0, 0, 0, 1).dueJourney(0, 0, 0, 1, 2, 250, 0);
        for (int i : new int[] {-2, -3, -49, Integer.MIN_VALUE, Integer.MIN_VALUE + 1}) {
            s.due(OUTSIDE, "journey", 0, i, 0).due(OUTSIDE, "journey", 0, i, 4);
        }
        for (int what : Sentence.beyond(0, 4)) {
            s.due(OUTSIDE, "journey", 0, 0, what).due(OUTSIDE, "journey", 0, -1, what);
        }
    }

    private void journeyOfWhichCard() {
        Sentence s = book.sentence(8, "UNKNOWN");
        for (int card = 0; card < 4; card++) {
            s.whole(card, card, 0, 0, card).dueJourney(card, 0, card, 1, card + 1, 200 + 50 * card, 0);
        }
        for (int card : Sentence.beyond(0, 3)) {
            s.due(UNKNOWN, "journey", card, 0, 0).due(UNKNOWN, "journey", card, -1, 0);
        }
    }
}
