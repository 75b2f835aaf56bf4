/** Promises 13 to 15: bar, hear, pass. */
public final class ListsTest {
    private static final Check check = new Check();
    private static final int MIN = Integer.MIN_VALUE, MAX = Integer.MAX_VALUE;

    public static void main(String[] args) {
        numbers();
        readersHearLater();
        lettingAgain();
        refused();
        check.end();
    }

    private static void numbers() {
        TapLedger x = new TapLedger();
        check.due("let who is not barred", x.bar(0, 0), 0);
        check.due("bar 3", x.bar(3, 1), 1);
        check.due("bar 3 again", x.bar(3, 1), 1);
        check.due("bar 1", x.bar(1, 1), 2);
        check.due("the set", x.count(5), 10);
        check.due("let 3", x.bar(3, 0), 3);
        check.due("let 3 again", x.bar(3, 0), 3);
        check.due("the set", x.count(5), 2);
        check.due("the number", x.count(4), 3);
    }

    private static void readersHearLater() {
        TapLedger x = new TapLedger();
        x.bar(2, 1);
        for (int r = 0; r < 4; r++) {
            check.due("not heard at " + r, x.pass(r, 2), 1);
        }
        check.due("3 hears", x.hear(3), 1);
        check.due("barred at 3", x.pass(3, 2), 0);
        check.due("others are let at 3", x.pass(3, 1), 1);
        check.due("let at 0", x.pass(0, 2), 1);
        check.due("three lag", x.count(6), 3);
        check.due("3 hears nothing new", x.hear(3), 0);
        x.bar(0, 1);
        x.bar(1, 1);
        check.due("four lag", x.count(6), 4);
        check.due("0 hears", x.hear(0), 3);
        check.due("3 hears two more", x.hear(3), 2);
        check.due("two lag", x.count(6), 2);
        check.due("number at 0", x.count(10), 3);
        check.due("number at 1", x.count(11), 0);
        check.due("number at 3", x.count(13), 3);
        check.due("taps of the barred still come", x.tap(0, 0, 0, 0, 0), 1);
    }

    private static void lettingAgain() {
        TapLedger x = new TapLedger();
        x.bar(0, 1);
        x.hear(1);
        x.bar(0, 0);
        check.due("barred at 1 still", x.pass(1, 0), 0);
        check.due("the sets of 0 and THE LIST are alike, yet 0 lags", x.count(6), 4);
        check.due("0 hears", x.hear(0), 2);
        check.due("1 hears", x.hear(1), 1);
        check.due("let at 1", x.pass(1, 0), 1);
        check.due("two lag", x.count(6), 2);
    }

    private static void refused() {
        TapLedger x = new TapLedger();
        for (int bad : new int[] {-1, 4, MIN, MAX, 32}) {
            check.due("bar card " + bad, x.bar(bad, 9), TapLedger.UNKNOWN);
            check.due("hear " + bad, x.hear(bad), TapLedger.UNKNOWN);
            check.due("pass reader " + bad, x.pass(bad, 0), TapLedger.UNKNOWN);
            check.due("pass card " + bad, x.pass(0, bad), TapLedger.UNKNOWN);
        }
        for (int bad : new int[] {-1, 2, MIN, MAX}) {
            check.due("bar on " + bad, x.bar(0, bad), TapLedger.OUTSIDE);
        }
        check.due("nothing changed", x.count(4) + x.count(5) + x.count(6), 0);
    }
}
