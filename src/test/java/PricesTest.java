/** Promises 1 to 3: a new object, zone, price. */
public final class PricesTest {
    private static final Check check = new Check();
    private static final int MIN = Integer.MIN_VALUE, MAX = Integer.MAX_VALUE;

    public static void main(String[] args) {
        newObject();
        zones();
        zonesCount();
        prices();
        pricesRefused();
        check.end();
    }

    private static void newObject() {
        TapLedger x = new TapLedger();
        int[] zones = {1, 2, 3, 4, 5, 1, 2, 3};
        for (int s = 0; s < 8; s++) {
            check.due("new: zone of " + s, x.count(20 + s), zones[s]);
        }
        for (int c = 0; c < 4; c++) {
            check.due("new: taps of " + c, x.count(c), 0);
            check.due("new: rides of " + c, x.ride(c, -1, 0), 0);
            check.due("new: journeys of " + c, x.journey(c, -1, 0), 0);
            check.due("new: best of " + c, x.best(c, 0), 0);
            check.due("new: weeks of " + c, x.best(c, 1), 0);
            check.due("new: saved by " + c, x.saved(c, 0) + x.saved(c, 1), 0);
            for (int r = 0; r < 4; r++) {
                check.due("new: pass(" + r + ", " + c + ")", x.pass(r, c), 1);
            }
        }
        for (int what = 4; what <= 8; what++) {
            check.due("new: count(" + what + ")", x.count(what), 0);
        }
        for (int r = 0; r < 4; r++) {
            check.due("new: number of reader " + r, x.count(10 + r), 0);
        }
        check.due("new: restore(0)", x.restore(0), TapLedger.STATE);
        check.due("new: restore(1)", x.restore(1), TapLedger.STATE);
    }

    private static void zones() {
        TapLedger x = new TapLedger();
        check.due("zone(0, 5)", x.zone(0, 5), 1);
        check.due("zone(0, 5) again", x.zone(0, 5), 5);
        check.due("zone(7, 1)", x.zone(7, 1), 3);
        check.due("zone(8, 9)", x.zone(8, 9), TapLedger.UNKNOWN);
        check.due("zone(-1, 1)", x.zone(-1, 1), TapLedger.UNKNOWN);
        check.due("zone(MIN, 1)", x.zone(MIN, 1), TapLedger.UNKNOWN);
        check.due("zone(MAX, 1)", x.zone(MAX, 1), TapLedger.UNKNOWN);
        for (int n : new int[] {0, 6, -1, MIN, MAX}) {
            check.due("zone(1, " + n + ")", x.zone(1, n), TapLedger.OUTSIDE);
        }
        check.due("count(20)", x.count(20), 5);
        check.due("count(21)", x.count(21), 2);
        check.due("count(27)", x.count(27), 1);
    }

    private static void zonesCount() {
        TapLedger x = new TapLedger();
        x.tap(0, 0, 0, 0, 0);
        x.tap(0, 0, 9, 1, 1);
        check.due("width 2", x.journey(0, 0, 2), 2);
        x.zone(1, 5);
        check.due("width 5, as the zone is now", x.journey(0, 0, 2), 5);
        check.due("cost of width 5", x.journey(0, 0, 3), 400);
        x.zone(1, 1);
        check.due("width 1", x.journey(0, 0, 2), 1);
    }

    private static void prices() {
        TapLedger x = new TapLedger();
        for (int w = 1; w <= 5; w++) {
            check.due("first fare of " + w, x.price(0, w, w), 150 + 50 * w);
            check.due("first cap of " + w, x.price(1, w, 10 + w), 400 + 100 * w);
            check.due("first week of " + w, x.price(2, w, 20 + w), 1500 + 400 * w);
        }
        for (int w = 1; w <= 5; w++) {
            check.due("fare of " + w, x.price(0, w, 0), w);
            check.due("cap of " + w, x.price(1, w, 9999), 10 + w);
            check.due("week of " + w, x.price(2, w, 9999), 20 + w);
        }
        check.due("fare of 0 cents was kept", x.price(0, 3, 1), 0);
        check.due("cap of 9999 was kept", x.price(1, 5, 1), 9999);
        check.due("first more", x.price(3, MIN, 9999), 50);
        check.due("more, whatever w", x.price(3, MAX, 0), 9999);
        check.due("first near", x.price(4, -7, 200), 30);
        check.due("near, whatever w", x.price(4, 99, 0), 200);
        check.due("near of 0", x.price(4, 1, 5), 0);
        check.due("more of 0", x.price(3, 1, 5), 0);
    }

    private static void pricesRefused() {
        TapLedger x = new TapLedger();
        for (int what : new int[] {-1, 5, MIN, MAX}) {
            check.due("price(" + what + ", 1, 1)", x.price(what, 1, 1), TapLedger.OUTSIDE);
        }
        for (int what = 0; what <= 2; what++) {
            for (int w : new int[] {0, 6, -1, MIN, MAX}) {
                check.due("price(" + what + ", " + w + ", 1)", x.price(what, w, 1), TapLedger.OUTSIDE);
            }
        }
        for (int what = 0; what <= 4; what++) {
            for (int n : new int[] {-1, 10000, MIN, MAX}) {
                check.due("price(" + what + ", 1, " + n + ")", x.price(what, 1, n), TapLedger.OUTSIDE);
            }
        }
        check.due("price(4, 1, 201)", x.price(4, 1, 201), TapLedger.OUTSIDE);
        check.due("refused changes no fare", x.price(0, 1, 0), 200);
        check.due("refused changes no cap", x.price(1, 1, 0), 500);
        check.due("refused changes no week", x.price(2, 1, 0), 1900);
        check.due("refused changes no more", x.price(3, 1, 0), 50);
        check.due("refused changes no near", x.price(4, 1, 0), 30);
    }
}
