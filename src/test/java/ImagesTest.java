/** Promises 16 to 18: image, restore, count. */
public final class ImagesTest {
    private static final Check check = new Check();
    private static final int MIN = Integer.MIN_VALUE, MAX = Integer.MAX_VALUE;

    public static void main(String[] args) {
        everythingComesBack();
        twoImages();
        refused();
        counts();
        check.end();
    }

    private static void everythingComesBack() {
        TapLedger x = new TapLedger();
        for (int card = 0; card < 4; card++) {
            x.tap(card, card, 100, card, 0);
            x.tap(card, card, 110, card + 1, 1);
        }
        x.zone(3, 5);
        x.bar(1, 1);
        x.hear(2);
        x.bar(3, 1);
        check.due("image(0)", x.image(0), 1);
        x.zone(3, 1);
        for (int what = 0; what < 3; what++) {
            x.price(what, 2, 1);
        }
        x.price(3, 0, 1);
        x.price(4, 0, 1);
        for (int card = 0; card < 4; card++) {
            x.untap(card, card, 100);
            x.tap(card, card, 120, 7, 0);
            x.tap(card, card, 130, 7, 0);
        }
        x.bar(1, 0);
        x.hear(0);
        x.hear(2);
        check.due("restore(0)", x.restore(0), 1);
        for (int card = 0; card < 4; card++) {
            check.due("taps of " + card, x.count(card), 2);
            check.due("first of " + card, x.told(card, 0, 1), 100);
            check.due("its station", x.told(card, 0, 2), card);
            check.due("second of " + card, x.told(card, 1, 1), 110);
            check.due("its way", x.told(card, 1, 3), 1);
            check.due("its day", x.told(card, 1, 0), card);
        }
        check.due("zone", x.count(23), 5);
        check.due("number", x.count(4), 2);
        check.due("set", x.count(5), 10);
        check.due("reader 2", x.count(12), 1);
        check.due("reader 0", x.count(10), 0);
        check.due("pass at 2", x.pass(2, 1), 0);
        check.due("pass at 2", x.pass(2, 3), 1);
        check.due("pass at 0", x.pass(0, 1), 1);
        check.due("fare", x.price(0, 2, 0), 250);
        check.due("cap", x.price(1, 2, 0), 600);
        check.due("week", x.price(2, 2, 0), 2300);
        check.due("more", x.price(3, 2, 0), 50);
        check.due("near", x.price(4, 2, 0), 30);
    }

    private static void twoImages() {
        TapLedger x = new TapLedger();
        check.due("none", x.count(8), 0);
        x.tap(0, 0, 0, 0, 0);
        check.due("image(1)", x.image(1), 1);
        check.due("1 is kept", x.count(8), 2);
        check.due("0 is not", x.restore(0), TapLedger.STATE);
        x.tap(0, 0, 1, 0, 0);
        check.due("image(0)", x.image(0), 1);
        check.due("both are kept", x.count(8), 3);
        x.tap(0, 0, 2, 0, 0);
        check.due("restore(1)", x.restore(1), 1);
        check.due("one tap", x.count(0), 1);
        check.due("images stay", x.count(8), 3);
        x.tap(0, 0, 9, 5, 1);
        check.due("restore(1) again", x.restore(1), 1);
        check.due("an image does not change with the ledger", x.count(0), 1);
        check.due("restore(0)", x.restore(0), 1);
        check.due("two taps", x.count(0), 2);
        check.due("image(1) in place of the first", x.image(1), 1);
        x.untap(0, 0, 0);
        x.restore(1);
        check.due("two taps", x.count(0), 2);
    }

    private static void refused() {
        TapLedger x = new TapLedger();
        for (int bad : new int[] {-1, 2, 32, 33, MIN, MAX}) {
            check.due("image " + bad, x.image(bad), TapLedger.OUTSIDE);
            check.due("restore " + bad, x.restore(bad), TapLedger.OUTSIDE);
        }
        x.tap(0, 0, 0, 0, 0);
        check.due("nothing kept", x.restore(1), TapLedger.STATE);
        check.due("nothing changed", x.count(0), 1);
        check.due("none", x.count(8), 0);
    }

    private static void counts() {
        TapLedger x = new TapLedger();
        for (int bad : new int[] {-1, 9, 14, 15, 19, 28, MIN, MAX}) {
            check.due("count " + bad, x.count(bad), TapLedger.OUTSIDE);
        }
        for (int card = 0; card < 4; card++) {
            for (int i = 0; i <= card; i++) {
                x.tap(card, i, 0, 0, 0);
            }
        }
        for (int card = 0; card < 4; card++) {
            check.due("taps of " + card, x.count(card), card + 1);
        }
        check.due("all cards cost", x.count(7), 400 + 800 + 1200 + 1600);
        x.price(2, 5, 500);
        check.due("all cards cost the best", x.count(7), 400 + 500 + 500 + 500);
        x.bar(0, 1);
        x.bar(2, 1);
        x.hear(3);
        check.due("number", x.count(4), 2);
        check.due("set", x.count(5), 5);
        check.due("lag", x.count(6), 3);
        check.due("reader 3", x.count(13), 2);
        check.due("reader 0", x.count(10), 0);
    }
}
