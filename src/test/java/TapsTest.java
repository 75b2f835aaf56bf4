/** Promises 4 to 6: tap, untap, told. */
public final class TapsTest {
    private static final Check check = new Check();
    private static final int MIN = Integer.MIN_VALUE, MAX = Integer.MAX_VALUE;

    public static void main(String[] args) {
        order();
        tapRefused();
        full();
        untaps();
        toldEdges();
        check.end();
    }

    private static void dueTap(TapLedger x, int card, int i, int... tap) {
        for (int what = 0; what < 4; what++) {
            check.due("told(" + card + ", " + i + ", " + what + ")", x.told(card, i, what), tap[what]);
        }
    }

    private static void order() {
        TapLedger x = new TapLedger();
        check.due("tap 1", x.tap(3, 27, 1439, 7, 1), 1);
        check.due("tap 2", x.tap(3, 0, 0, 0, 0), 2);
        check.due("tap 3", x.tap(3, 14, 700, 3, 0), 3);
        check.due("tap 4, a day later", x.tap(3, 15, 699, 4, 1), 4);
        check.due("tap 5, a minute less", x.tap(3, 14, 699, 5, 1), 5);
        check.due("tap 6", x.tap(3, 0, 1439, 6, 1), 6);
        check.due("tap 7", x.tap(3, 1, 0, 2, 1), 7);
        dueTap(x, 3, 0, 0, 0, 0, 0);
        dueTap(x, 3, 1, 0, 1439, 6, 1);
        dueTap(x, 3, 2, 1, 0, 2, 1);
        dueTap(x, 3, 3, 14, 699, 5, 1);
        dueTap(x, 3, 4, 14, 700, 3, 0);
        dueTap(x, 3, 5, 15, 699, 4, 1);
        dueTap(x, 3, 6, 27, 1439, 7, 1);
        check.due("another card", x.tap(2, 0, 0, 1, 1), 1);
        dueTap(x, 2, 0, 0, 0, 1, 1);
        check.due("cards are apart", x.count(3), 7);
    }

    private static void tapRefused() {
        TapLedger x = new TapLedger();
        x.tap(0, 1, 1, 1, 1);
        for (int bad : new int[] {-1, MIN, MAX}) {
            check.due("card " + bad, x.tap(bad, 0, 0, 0, 0), TapLedger.UNKNOWN);
            check.due("station " + bad, x.tap(0, 0, 0, bad, 0), TapLedger.UNKNOWN);
            check.due("day " + bad, x.tap(0, bad, 0, 0, 0), TapLedger.OUTSIDE);
            check.due("minute " + bad, x.tap(0, 0, bad, 0, 0), TapLedger.OUTSIDE);
            check.due("way " + bad, x.tap(0, 0, 0, 0, bad), TapLedger.OUTSIDE);
        }
        check.due("card 4", x.tap(4, 0, 0, 0, 0), TapLedger.UNKNOWN);
        check.due("station 8", x.tap(0, 0, 0, 8, 0), TapLedger.UNKNOWN);
        check.due("station 8 goes ahead of day 28", x.tap(0, 28, 0, 8, 0), TapLedger.UNKNOWN);
        check.due("day 28", x.tap(0, 28, 0, 0, 0), TapLedger.OUTSIDE);
        check.due("minute 1440", x.tap(0, 0, 1440, 0, 0), TapLedger.OUTSIDE);
        check.due("way 2", x.tap(0, 0, 0, 0, 2), TapLedger.OUTSIDE);
        check.due("way 2 goes ahead of a taken minute", x.tap(0, 1, 1, 0, 2), TapLedger.OUTSIDE);
        check.due("a taken minute", x.tap(0, 1, 1, 2, 0), TapLedger.NO);
        check.due("the minute of another day", x.tap(0, 2, 1, 2, 0), 2);
        check.due("the minute of another card", x.tap(1, 1, 1, 2, 0), 1);
        dueTap(x, 0, 0, 1, 1, 1, 1);
        check.due("refused adds none", x.count(0), 2);
    }

    private static void full() {
        TapLedger x = new TapLedger();
        for (int i = 0; i < 48; i++) {
            check.due("tap " + i, x.tap(1, i % 28, 1000 - i, i % 8, i % 2), i + 1);
        }
        check.due("the 49th", x.tap(1, 27, 1439, 0, 0), TapLedger.FULL);
        check.due("the 49th would", x.would(1, 27, 1439, 0, 0), TapLedger.FULL);
        check.due("NO goes ahead of FULL", x.tap(1, 0, 1000, 0, 0), TapLedger.NO);
        check.due("so with would", x.would(1, 0, 1000, 0, 0), TapLedger.NO);
        check.due("OUTSIDE goes ahead of FULL", x.tap(1, 28, 0, 0, 0), TapLedger.OUTSIDE);
        check.due("another card has room", x.tap(0, 27, 1439, 0, 0), 1);
        check.due("48 stay", x.count(1), 48);
        check.due("one goes", x.untap(1, 0, 1000), 47);
        check.due("one comes", x.tap(1, 27, 1439, 0, 0), 48);
        dueTap(x, 1, 47, 27, 1439, 0, 0);
        check.due("full again", x.tap(1, 27, 1438, 0, 0), TapLedger.FULL);
    }

    private static void untaps() {
        TapLedger x = new TapLedger();
        check.due("none yet", x.untap(0, 0, 0), TapLedger.NO);
        x.tap(0, 3, 10, 1, 0);
        x.tap(0, 3, 20, 2, 1);
        x.tap(0, 4, 10, 3, 0);
        x.tap(1, 3, 20, 4, 0);
        check.due("no such minute", x.untap(0, 3, 11), TapLedger.NO);
        check.due("the middle goes", x.untap(0, 3, 20), 2);
        dueTap(x, 0, 0, 3, 10, 1, 0);
        dueTap(x, 0, 1, 4, 10, 3, 0);
        check.due("gone", x.told(0, 2, 0), TapLedger.NONE);
        check.due("gone once", x.untap(0, 3, 20), TapLedger.NO);
        dueTap(x, 1, 0, 3, 20, 4, 0);
        check.due("the first goes", x.untap(0, 3, 10), 1);
        dueTap(x, 0, 0, 4, 10, 3, 0);
        check.due("the last goes", x.untap(0, 4, 10), 0);
        check.due("it comes again", x.tap(0, 4, 10, 6, 1), 1);
        dueTap(x, 0, 0, 4, 10, 6, 1);
        for (int bad : new int[] {-1, MIN, MAX}) {
            check.due("untap card " + bad, x.untap(bad, -1, -1), TapLedger.UNKNOWN);
            check.due("untap day " + bad, x.untap(0, bad, 0), TapLedger.OUTSIDE);
            check.due("untap minute " + bad, x.untap(0, 0, bad), TapLedger.OUTSIDE);
        }
        check.due("untap card 4", x.untap(4, 0, 0), TapLedger.UNKNOWN);
        check.due("untap day 28", x.untap(0, 28, 0), TapLedger.OUTSIDE);
        check.due("untap minute 1440", x.untap(0, 3, 1440), TapLedger.OUTSIDE);
        check.due("a minute of a day is no minute of the next", x.untap(0, 3, 1440 + 10), TapLedger.OUTSIDE);
    }

    private static void toldEdges() {
        TapLedger x = new TapLedger();
        x.tap(2, 5, 6, 7, 1);
        for (int i : new int[] {-1, 1, 48, MIN, MAX}) {
            check.due("told(2, " + i + ", 0)", x.told(2, i, 0), TapLedger.NONE);
            check.due("told(2, " + i + ", 4)", x.told(2, i, 4), TapLedger.OUTSIDE);
        }
        for (int what : new int[] {-1, 4, MIN, MAX}) {
            check.due("told(2, 0, " + what + ")", x.told(2, 0, what), TapLedger.OUTSIDE);
        }
        for (int card : new int[] {-1, 4, MIN, MAX}) {
            check.due("told(" + card + ", 0, 9)", x.told(card, 0, 9), TapLedger.UNKNOWN);
        }
    }
}
