/** Promises 7 and 8: ride, journey. */
public final class RidesTest {
    private static final Check check = new Check();
    private static final int MIN = Integer.MIN_VALUE, MAX = Integer.MAX_VALUE, NONE = TapLedger.NONE;

    public static void main(String[] args) {
        kinds();
        mended();
        mendedByTheLastAhead();
        dayParts();
        journeysJoin();
        journeysPart();
        tapsThatWentLeaveNothing();
        threeAtMost();
        widths();
        busy();
        lameCosts();
        refused();
        check.end();
    }

    private static void dueRide(TapLedger x, int i, int... ride) {
        for (int what = 0; what < 5; what++) {
            check.due("ride(0, " + i + ", " + what + ")", x.ride(0, i, what), ride[what]);
        }
    }

    private static void dueJourney(TapLedger x, int i, int... journey) {
        for (int what = 0; what < 5; what++) {
            check.due("journey(0, " + i + ", " + what + ")", x.journey(0, i, what), journey[what]);
        }
    }

    /** A WHOLE RIDE of card 0. */
    private static void whole(TapLedger x, int day, int from, int begin, int to, int end) {
        check.holds("tap in", x.tap(0, day, from, begin, 0) > 0);
        check.holds("tap out", x.tap(0, day, to, end, 1) > 0);
    }

    private static void kinds() {
        TapLedger x = new TapLedger();
        x.tap(0, 1, 10, 3, 1);
        x.tap(0, 1, 20, 0, 0);
        x.tap(0, 1, 30, 1, 0);
        x.tap(0, 1, 40, 2, 1);
        x.tap(0, 1, 50, 4, 1);
        x.tap(0, 1, 60, 5, 0);
        dueRide(x, 0, NONE, 3, 2, 1, 0);
        dueRide(x, 1, 0, NONE, 1, 1, 1);
        dueRide(x, 2, 1, 2, 0, 0, 2);
        dueRide(x, 3, NONE, 4, 2, 1, 3);
        dueRide(x, 4, 5, NONE, 1, 1, 4);
        check.due("rides", x.ride(0, -1, 4), 5);
        check.due("a sixth", x.ride(0, 5, 0), NONE);
        check.due("journeys", x.journey(0, -1, 4), 5);
        check.due("a sixth journey", x.journey(0, 5, 0), NONE);
    }

    private static void mended() {
        TapLedger x = new TapLedger();
        whole(x, 2, 10, 1, 20, 3);
        x.tap(0, 3, 10, 1, 0);
        x.tap(0, 3, 20, 1, 0);
        x.tap(0, 4, 10, 3, 1);
        x.tap(0, 4, 20, 3, 0);
        x.tap(0, 5, 10, 1, 1);
        x.tap(0, 1, 10, 1, 0);
        dueRide(x, 0, 1, NONE, 1, 1, 0);
        dueRide(x, 1, 1, 3, 0, 0, 1);
        dueRide(x, 2, 1, 3, 1, 0, 2);
        dueRide(x, 3, 1, 3, 1, 0, 3);
        dueRide(x, 4, 1, 3, 2, 0, 4);
        // Only a WHOLE RIDE that began at 3 could mend this one; one that ended there does not.
        dueRide(x, 5, 3, NONE, 1, 1, 5);
        dueRide(x, 6, NONE, 1, 2, 1, 6);
        dueJourney(x, 2, 3, 1, 3, 300, 0);
        dueJourney(x, 4, 4, 1, 3, 300, 0);
    }

    private static void mendedByTheLastAhead() {
        TapLedger x = new TapLedger();
        whole(x, 1, 10, 0, 20, 1);
        whole(x, 2, 10, 0, 20, 2);
        whole(x, 2, 100, 4, 120, 1);
        x.tap(0, 3, 10, 0, 0);
        x.tap(0, 3, 20, 0, 0);
        x.tap(0, 4, 20, 1, 1);
        whole(x, 5, 10, 0, 20, 3);
        check.due("the last one that began at 0", x.ride(0, 3, 1), 2);
        check.due("a mended one mends none", x.ride(0, 4, 1), 2);
        check.due("the last one that ended at 1", x.ride(0, 5, 0), 4);
        x.untap(0, 2, 20);
        check.due("then the one before", x.ride(0, 4, 1), 1);
        x.untap(0, 1, 20);
        x.untap(0, 1, 10);
        x.untap(0, 2, 10);
        check.due("a later one does not mend", x.ride(0, 1, 1), NONE);
        check.due("so it is lame", x.ride(0, 1, 3), 1);
    }

    private static void dayParts() {
        TapLedger x = new TapLedger();
        x.tap(0, 1, 1439, 0, 0);
        x.tap(0, 2, 0, 1, 1);
        dueRide(x, 0, 0, NONE, 1, 1, 0);
        dueRide(x, 1, NONE, 1, 2, 1, 1);
        dueJourney(x, 0, 1, 1, 5, 400, 0);
        dueJourney(x, 1, 2, 1, 5, 400, 0);
        TapLedger y = new TapLedger();
        y.tap(0, 1, 1430, 0, 0);
        y.tap(0, 1, 1439, 1, 1);
        y.tap(0, 2, 0, 1, 0);
        y.tap(0, 2, 5, 0, 1);
        check.due("a journey is of one day", y.journey(0, -1, 0), 2);
    }

    private static void journeysJoin() {
        TapLedger x = new TapLedger();
        whole(x, 0, 100, 0, 110, 1);
        whole(x, 0, 140, 1, 150, 3);
        dueRide(x, 1, 1, 3, 0, 0, 0);
        dueJourney(x, 0, 0, 2, 4, 350, 0);
        check.due("one journey", x.journey(0, -1, 0), 1);
        x.price(4, 0, 29);
        check.due("a minute too late", x.journey(0, -1, 0), 2);
        dueRide(x, 1, 1, 3, 0, 0, 1);
        dueJourney(x, 1, 0, 1, 3, 300, 0);
        x.price(4, 0, 200);
        whole(x, 0, 350, 3, 360, 3);
        check.due("200 minutes", x.journey(0, 0, 1), 3);
        x.price(4, 0, 0);
        check.due("near 0 joins none", x.journey(0, -1, 0), 3);
        x.price(4, 0, 1);
        x.tap(0, 0, 361, 3, 0);
        x.tap(0, 0, 363, 0, 1);
        check.due("one minute is near enough", x.journey(0, 2, 1), 2);
    }

    private static void journeysPart() {
        TapLedger x = new TapLedger();
        whole(x, 0, 100, 0, 110, 1);
        whole(x, 0, 120, 6, 130, 3);
        check.due("another station of the same zone", x.journey(0, -1, 0), 2);
        TapLedger y = new TapLedger();
        whole(y, 0, 100, 0, 110, 1);
        y.tap(0, 0, 115, 1, 0);
        whole(y, 0, 120, 1, 130, 3);
        check.due("one that lacks its end stands between", y.journey(0, -1, 0), 3);
        TapLedger z = new TapLedger();
        whole(z, 0, 100, 0, 110, 1);
        whole(z, 0, 115, 1, 117, 0);
        z.tap(0, 0, 120, 0, 0);
        check.due("a mended one does not join", z.ride(0, 2, 4), 1);
        check.due("though it is mended", z.ride(0, 2, 3), 0);
        z.tap(0, 0, 125, 0, 1);
        check.due("a whole one joins", z.ride(0, 2, 4), 0);
        TapLedger w = new TapLedger();
        whole(w, 0, 100, 0, 110, 1);
        w.tap(0, 0, 115, 1, 1);
        whole(w, 0, 120, 1, 130, 3);
        check.due("mended, from 0 to 1", w.ride(0, 1, 0), 0);
        check.due("none joins a mended one", w.ride(0, 2, 4), 2);
    }

    private static void tapsThatWentLeaveNothing() {
        TapLedger x = new TapLedger();
        whole(x, 3, 100, 0, 110, 1);
        whole(x, 3, 120, 1, 130, 2);
        x.untap(0, 3, 130);
        dueRide(x, 1, 1, NONE, 1, 1, 1);
        x.untap(0, 3, 120);
        x.untap(0, 3, 110);
        dueRide(x, 0, 0, NONE, 1, 1, 0);
        check.due("one ride", x.ride(0, -1, 0), 1);
        x.untap(0, 3, 100);
        check.due("no ride", x.ride(0, -1, 0), 0);
        check.due("no journey", x.journey(0, -1, 0), 0);
        check.due("no sum", x.day(0, 3, 0), 0);
        check.due("no width", x.day(0, 3, 1), 0);
    }

    private static void threeAtMost() {
        TapLedger x = new TapLedger();
        for (int i = 0; i < 7; i++) {
            whole(x, 0, 10 * i, 0, 10 * i + 5, 0);
        }
        check.due("seven rides, three journeys", x.journey(0, -1, 0), 3);
        dueJourney(x, 0, 0, 3, 1, 200, 0);
        dueJourney(x, 1, 0, 3, 1, 200, 0);
        dueJourney(x, 2, 0, 1, 1, 200, 0);
        check.due("the third", x.ride(0, 2, 4), 0);
        check.due("the fourth", x.ride(0, 3, 4), 1);
        check.due("the seventh", x.ride(0, 6, 4), 2);
    }

    private static void widths() {
        TapLedger x = new TapLedger();
        whole(x, 0, 100, 1, 110, 4);
        whole(x, 0, 111, 4, 120, 2);
        dueJourney(x, 0, 0, 2, 4, 350, 0);
        whole(x, 0, 121, 2, 130, 0);
        dueJourney(x, 0, 0, 3, 5, 400, 0);
        x.zone(4, 2);
        dueJourney(x, 0, 0, 3, 3, 300, 0);
        x.price(0, 3, 777);
        dueJourney(x, 0, 0, 3, 3, 777, 0);
    }

    private static void busy() {
        int[] calm = {0, 419, 570, 959, 1110, 1439};
        int[] busy = {420, 569, 960, 1109, 500, 1000};
        for (int day = 0; day < 28; day++) {
            boolean free = day % 7 == 5 || day % 7 == 6;
            for (int minute : calm) {
                dueBusy(day, minute, 0);
            }
            for (int minute : busy) {
                dueBusy(day, minute, free ? 0 : 1);
            }
        }
        TapLedger x = new TapLedger();
        whole(x, 0, 569, 0, 571, 0);
        whole(x, 0, 575, 0, 580, 0);
        dueJourney(x, 0, 0, 2, 1, 250, 1);
        TapLedger y = new TapLedger();
        whole(y, 0, 410, 0, 419, 0);
        whole(y, 0, 420, 0, 430, 0);
        dueJourney(y, 0, 0, 2, 1, 200, 0);
        x.price(3, 0, 7);
        dueJourney(x, 0, 0, 2, 1, 207, 1);
    }

    private static void dueBusy(int day, int minute, int want) {
        for (int way = 0; way < 2; way++) {
            TapLedger x = new TapLedger();
            x.tap(0, day, minute, 2, way);
            String at = "day " + day + ", minute " + minute + ", way " + way;
            check.due("busy: " + at, x.journey(0, 0, 4), want);
            check.due("cost: " + at, x.journey(0, 0, 3), 400 + 50 * want);
            check.due("day: " + at, x.journey(0, 0, 0), day);
        }
    }

    private static void lameCosts() {
        TapLedger x = new TapLedger();
        x.tap(0, 0, 500, 0, 0);
        dueJourney(x, 0, 0, 1, 5, 450, 1);
        for (int s = 0; s < 8; s++) {
            x.zone(s, 3);
        }
        dueJourney(x, 0, 0, 1, 5, 450, 1);
        x.price(0, 5, 1);
        dueJourney(x, 0, 0, 1, 5, 51, 1);
    }

    private static void refused() {
        TapLedger x = new TapLedger();
        x.tap(0, 0, 0, 0, 0);
        for (int card : new int[] {-1, 4, MIN, MAX}) {
            check.due("ride of card " + card, x.ride(card, -2, 9), TapLedger.UNKNOWN);
            check.due("journey of card " + card, x.journey(card, -2, 9), TapLedger.UNKNOWN);
        }
        for (int i : new int[] {-2, MIN}) {
            check.due("ride " + i, x.ride(0, i, 0), TapLedger.OUTSIDE);
            check.due("journey " + i, x.journey(0, i, 0), TapLedger.OUTSIDE);
        }
        for (int what : new int[] {-1, 5, MIN, MAX}) {
            for (int i : new int[] {-1, 0, 1, MAX}) {
                check.due("ride " + i + ", " + what, x.ride(0, i, what), TapLedger.OUTSIDE);
                check.due("journey " + i + ", " + what, x.journey(0, i, what), TapLedger.OUTSIDE);
            }
        }
        for (int i : new int[] {1, 48, MAX}) {
            check.due("ride " + i, x.ride(0, i, 0), NONE);
            check.due("journey " + i, x.journey(0, i, 0), NONE);
        }
    }
}
