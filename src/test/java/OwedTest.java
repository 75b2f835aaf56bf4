/** Promises 9 to 12: day, best, saved, would. */
public final class OwedTest {
    private static final Check check = new Check();
    private static final int MIN = Integer.MIN_VALUE, MAX = Integer.MAX_VALUE, NONE = TapLedger.NONE;

    public static void main(String[] args) {
        days();
        capsByWidth();
        oneWeek();
        weeksEnd();
        fewestWeeks();
        earliestWeeks();
        fourWeeks();
        weekByWidth();
        emptyWeekCostsNothing();
        savings();
        woulds();
        oneTapMendsAll();
        refused();
        check.end();
    }

    /** A WHOLE RIDE of card 1 with no MORE, of WIDTH 1 to 5. */
    private static void whole(TapLedger x, int day, int from, int width) {
        check.holds("tap in", x.tap(1, day, from, 0, 0) > 0);
        check.holds("tap out", x.tap(1, day, from + 1, width - 1, 1) > 0);
    }

    private static void dueDay(TapLedger x, int day, int... want) {
        for (int what = 0; what < 4; what++) {
            check.due("day(1, " + day + ", " + what + ")", x.day(1, day, what), want[what]);
        }
    }

    private static void dueBest(TapLedger x, String when, int cost, int... starts) {
        check.due(when + ": cost", x.best(1, 0), cost);
        check.due(when + ": weeks", x.best(1, 1), starts.length);
        for (int k = 0; k < 4; k++) {
            check.due(when + ": week " + k, x.best(1, 10 + k), k < starts.length ? starts[k] : NONE);
        }
        for (int day = 0; day < 28; day++) {
            int covered = 0;
            for (int start : starts) {
                covered |= day >= start && day < start + 7 ? 1 : 0;
            }
            check.due(when + ": day " + day + " is of a week", x.day(1, day, 3), covered);
        }
    }

    private static void days() {
        TapLedger x = new TapLedger();
        dueDay(x, 0, 0, 0, 0, 0);
        whole(x, 4, 0, 2);
        dueDay(x, 4, 250, 2, 250, 0);
        whole(x, 4, 100, 3);
        dueDay(x, 4, 550, 3, 550, 0);
        whole(x, 4, 200, 1);
        dueDay(x, 4, 750, 3, 700, 0);
        dueDay(x, 3, 0, 0, 0, 0);
        dueDay(x, 5, 0, 0, 0, 0);
        x.price(1, 3, 751);
        dueDay(x, 4, 750, 3, 750, 0);
        x.price(1, 3, 0);
        dueDay(x, 4, 750, 3, 0, 0);
        check.due("another card has none", x.day(0, 4, 0), 0);
    }

    private static void capsByWidth() {
        for (int width = 1; width <= 5; width++) {
            TapLedger x = new TapLedger();
            for (int i = 0; i < 5; i++) {
                whole(x, 27, 100 * i, i == 2 ? width : 1);
            }
            dueDay(x, 27, 4 * 200 + 150 + 50 * width, width, 400 + 100 * width, 0);
        }
    }

    private static void oneWeek() {
        TapLedger x = new TapLedger();
        x.price(2, 1, 300);
        whole(x, 8, 0, 1);
        dueBest(x, "one day", 200);
        whole(x, 14, 0, 1);
        dueBest(x, "two days seven long", 300, 8);
        x.price(2, 1, 400);
        dueBest(x, "as dear as a week", 400);
        x.price(2, 1, 399);
        dueBest(x, "a cent less", 399, 8);
        x.untap(1, 14, 0);
        x.untap(1, 14, 1);
        whole(x, 15, 0, 1);
        dueBest(x, "eight days long", 400);
        whole(x, 21, 0, 1);
        dueBest(x, "the later two", 599, 15);
        TapLedger y = new TapLedger();
        y.price(2, 1, 0);
        whole(y, 27, 0, 1);
        dueBest(y, "a week that ends on the last day", 0, 21);
    }

    private static void weeksEnd() {
        TapLedger x = new TapLedger();
        x.price(2, 1, 300);
        whole(x, 0, 0, 1);
        whole(x, 6, 0, 1);
        whole(x, 7, 0, 5);
        dueBest(x, "the eighth day is of no matter to the width", 300 + 400, 0);
        TapLedger y = new TapLedger();
        y.price(2, 1, 300);
        whole(y, 20, 0, 5);
        whole(y, 26, 0, 1);
        whole(y, 27, 0, 1);
        dueBest(y, "none begins behind day 21", 400 + 300, 21);
        whole(y, 21, 0, 5);
        dueBest(y, "so none is of width 1", 400 + 400 + 400);
    }

    private static void fewestWeeks() {
        TapLedger x = new TapLedger();
        x.price(2, 1, 200);
        whole(x, 0, 0, 1);
        dueBest(x, "a week as dear as a day is not taken", 200);
        whole(x, 6, 0, 1);
        whole(x, 10, 0, 1);
        dueBest(x, "one week only, for two days", 400, 0);
    }

    private static void earliestWeeks() {
        TapLedger x = new TapLedger();
        x.price(2, 1, 300);
        whole(x, 10, 0, 1);
        whole(x, 11, 0, 1);
        dueBest(x, "begins as early as it can", 300, 5);
        whole(x, 20, 0, 1);
        whole(x, 25, 0, 1);
        dueBest(x, "both begin so", 600, 5, 19);
        whole(x, 12, 0, 1);
        dueBest(x, "the first must move", 600, 6, 19);
        whole(x, 0, 0, 1);
        dueBest(x, "a day stays alone", 800, 6, 19);
        TapLedger y = new TapLedger();
        y.price(2, 1, 300);
        for (int day = 0; day < 14; day += 5) {
            whole(y, day, 0, 1);
        }
        dueBest(y, "either pair: the earliest", 500, 0);
    }

    private static void fourWeeks() {
        TapLedger x = new TapLedger();
        x.price(2, 1, 199);
        for (int day = 0; day < 28; day += 7) {
            whole(x, day, 0, 1);
            whole(x, day + 6, 0, 1);
        }
        dueBest(x, "four", 4 * 199, 0, 7, 14, 21);
        check.due("all cards", x.count(7), 4 * 199);
    }

    private static void weekByWidth() {
        TapLedger x = new TapLedger();
        for (int day = 0; day < 7; day++) {
            whole(x, day, 0, day == 3 ? 4 : 1);
            whole(x, day, 100, 1);
            whole(x, day, 200, 1);
        }
        check.due("days of caps", x.day(1, 0, 2), 500);
        dueBest(x, "a week of the greatest width", 3100, 0);
        x.price(2, 1, 0);
        dueBest(x, "that of another width is no matter", 0 + 750 + 3 * 500, 4);
    }

    private static void emptyWeekCostsNothing() {
        TapLedger x = new TapLedger();
        x.price(2, 1, 9999);
        dueBest(x, "nothing", 0);
        x.price(0, 1, 0);
        whole(x, 3, 0, 1);
        dueBest(x, "a day for nothing", 0);
        dueDay(x, 3, 0, 1, 0, 0);
    }

    private static void savings() {
        TapLedger x = new TapLedger();
        for (int i = 0; i < 4; i++) {
            whole(x, 2, 100 * i, 1);
            whole(x, 3, 100 * i, 1);
        }
        check.due("by caps", x.saved(1, 0), 2 * 300);
        check.due("by weeks none", x.saved(1, 1), 0);
        x.price(2, 1, 700);
        check.due("by caps still", x.saved(1, 0), 2 * 300);
        check.due("by weeks", x.saved(1, 1), 300);
        check.due("another card", x.saved(0, 0) + x.saved(0, 1), 0);
        TapLedger y = new TapLedger();
        for (int i = 0; i < 4; i++) {
            whole(y, 0, 100 * i, 1);
            whole(y, 27, 100 * i, 1);
        }
        check.due("on the first day and the last", y.saved(1, 0), 2 * 300);
    }

    private static void woulds() {
        TapLedger x = new TapLedger();
        check.due("a lame one", x.would(1, 0, 0, 0, 0), 100400);
        check.due("a busy lame one", x.would(1, 0, 420, 0, 1), 100450);
        check.due("nothing came of it", x.count(1) + x.best(1, 0), 0);
        x.tap(1, 0, 0, 0, 0);
        check.due("it becomes whole", x.would(1, 0, 1, 0, 1), 99800);
        check.due("a second lame one", x.would(1, 0, 1, 0, 0), 100400);
        x.tap(1, 0, 1, 0, 0);
        check.due("the cap is near", x.would(1, 0, 2, 0, 0), 100100);
        x.tap(1, 0, 2, 0, 0);
        check.due("the cap is there", x.would(1, 0, 3, 0, 0), 100000);
        check.due("told as before", x.told(1, 2, 1), 2);
        check.due("three", x.count(1), 3);
        x.price(2, 5, 1000);
        check.due("a week takes it", x.would(1, 6, 3, 0, 0), 100100);
        check.due("none too early", x.would(1, 7, 3, 0, 0), 100400);
    }

    private static void oneTapMendsAll() {
        TapLedger x = new TapLedger();
        x.price(0, 5, 9999);
        x.price(1, 5, 9999);
        x.price(2, 5, 9999);
        x.price(0, 1, 0);
        for (int day = 0; day < 28; day++) {
            x.tap(1, day, 0, 0, 0);
        }
        check.due("four weeks", x.best(1, 0), 4 * 9999);
        check.due("one tap mends all", x.would(1, 0, 1, 0, 1), 100000 - 4 * 9999);
    }

    private static void refused() {
        TapLedger x = new TapLedger();
        x.tap(0, 1, 1, 1, 1);
        for (int card : new int[] {-1, 4, MIN, MAX}) {
            check.due("day of card " + card, x.day(card, -1, -1), TapLedger.UNKNOWN);
            check.due("best of card " + card, x.best(card, -1), TapLedger.UNKNOWN);
            check.due("saved of card " + card, x.saved(card, -1), TapLedger.UNKNOWN);
            check.due("would of card " + card, x.would(card, -1, 0, 0, 0), TapLedger.UNKNOWN);
        }
        for (int bad : new int[] {-1, 28, MIN, MAX}) {
            check.due("day " + bad, x.day(0, bad, 0), TapLedger.OUTSIDE);
            check.due("would day " + bad, x.would(0, bad, 0, 0, 0), TapLedger.OUTSIDE);
        }
        for (int bad : new int[] {-1, 4, MIN, MAX}) {
            check.due("day what " + bad, x.day(0, 0, bad), TapLedger.OUTSIDE);
        }
        for (int bad : new int[] {-1, 2, 9, 14, MIN, MAX}) {
            check.due("best " + bad, x.best(0, bad), TapLedger.OUTSIDE);
        }
        for (int bad : new int[] {-1, 2, MIN, MAX}) {
            check.due("saved " + bad, x.saved(0, bad), TapLedger.OUTSIDE);
            check.due("would way " + bad, x.would(0, 0, 0, 0, bad), TapLedger.OUTSIDE);
        }
        check.due("would station 8", x.would(0, 28, 0, 8, 0), TapLedger.UNKNOWN);
        check.due("would minute 1440", x.would(0, 0, 1440, 0, 0), TapLedger.OUTSIDE);
        check.due("would at a taken minute", x.would(0, 1, 1, 0, 0), TapLedger.NO);
    }
}
