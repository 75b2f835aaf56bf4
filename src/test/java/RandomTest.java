import java.util.Random;

/**
 * Runs of random calls, each answer compared with the Model's; the seeds are fixed. The document promises
 * nothing behind an object's 512th call; the class goes on as before, which lets a run end with a look at all.
 */
public final class RandomTest {
    private static final int[] ODD = {-1, -2, 2, 4, 5, 6, 8, 9, 14, 28, 32, 33, 201, 1440, 10000,
        Integer.MIN_VALUE, Integer.MAX_VALUE};

    private final Check check;
    private final Random random;
    private final TapLedger x = new TapLedger();
    private final Model m = new Model();
    private final int run;
    /** How the run leans, so that few runs are alike: to few DAYS, low prices, one CARD. */
    private final int days, cards, dear, gap;

    private RandomTest(Check check, int run) {
        this.check = check;
        this.run = run;
        random = new Random(run);
        days = new int[] {2, 9, 28, 28}[random.nextInt(4)];
        cards = new int[] {1, 1, 2, 4}[random.nextInt(4)];
        dear = new int[] {3, 20, 700, 10000}[random.nextInt(4)];
        gap = new int[] {1, 10, 45}[random.nextInt(3)];
    }

    public static void main(String[] args) {
        int runs = args.length > 0 ? Integer.parseInt(args[0]) : 400;
        Check check = new Check();
        for (int run = 0; run < runs && check.isClean(); run++) {
            RandomTest one = new RandomTest(check, run);
            if (run % 2 == 0) {
                one.cheapen();
            }
            for (int call = 0; call < 400 && check.isClean(); call++) {
                one.call();
            }
            one.lookAtAll();
        }
        check.end();
    }

    private int odd(int usual) {
        return random.nextInt(60) == 0 ? ODD[random.nextInt(ODD.length)] : usual;
    }

    private int below(int n) {
        return odd(random.nextInt(n));
    }

    private int aMinute() {
        return odd(random.nextInt(3) == 0 ? random.nextInt(1440) : (380 + gap * random.nextInt(20)) % 1440);
    }

    private void due(String call, long got, long want) {
        check.due("run " + run + ": " + call, got, want);
    }

    private void cheapen() {
        for (int w = 1; w <= 5; w++) {
            for (int what = 0; what < 3; what++) {
                int n = random.nextInt(dear) * (what == 2 ? 2 : 1) % 10000;
                due("price", x.price(what, w, n), m.price(what, w, n));
            }
        }
    }

    private void call() {
        int kind = random.nextInt(40);
        if (kind < 14) tapRide();
        else if (kind < 18) change();
        else if (kind < 34) look();
        else listsAndImages();
    }

    private void tapRide() {
        int card = below(cards), day = below(days), minute = aMinute(), station = below(8), way = below(2);
        due("would", x.would(card, day, minute, station, way), m.would(card, day, minute, station, way));
        due("tap(" + card + ", " + day + ", " + minute + ", " + station + ", " + way + ")",
            x.tap(card, day, minute, station, way), m.tap(card, day, minute, station, way));
        if (way == 0 && random.nextInt(3) > 0 && minute < 1400) {
            int later = minute + 1 + random.nextInt(20);
            int to = below(random.nextBoolean() ? 8 : 2);
            due("tap out", x.tap(card, day, later, to, 1), m.tap(card, day, later, to, 1));
            due("tap on", x.tap(card, day, later + gap, to, 0), m.tap(card, day, later + gap, to, 0));
        }
    }

    private void change() {
        int card = below(cards), what = below(5), w = 1 + below(5), n = below(dear), s = below(8), z = 1 + below(5);
        int i = random.nextInt(48);
        switch (random.nextInt(4)) {
            case 0: due("zone", x.zone(s, z), m.zone(s, z)); break;
            case 1: due("price", x.price(what, w, n), m.price(what, w, n)); break;
            case 2: due("near", x.price(4, w, n % 100), m.price(4, w, n % 100)); break;
            default:
                int day = odd(m.told(card, i, 0)), minute = odd(m.told(card, i, 1));
                due("untap", x.untap(card, day, minute), m.untap(card, day, minute));
        }
    }

    private void look() {
        int card = below(cards), i = odd(random.nextInt(30) - 1), day = below(days);
        int four = below(4), five = below(5), two = below(2);
        int ten = odd(random.nextBoolean() ? random.nextInt(2) : 10 + random.nextInt(4));
        switch (random.nextInt(7)) {
            case 0: due("told", x.told(card, i, four), m.told(card, i, four)); break;
            case 1: due("ride " + i + ", " + five, x.ride(card, i, five), m.ride(card, i, five)); break;
            case 2: due("journey", x.journey(card, i, five), m.journey(card, i, five)); break;
            case 3: due("day", x.day(card, day, four), m.day(card, day, four)); break;
            case 4: due("best", x.best(card, ten), m.best(card, ten)); break;
            case 5: due("saved", x.saved(card, two), m.saved(card, two)); break;
            default: int what = below(30); due("count " + what, x.count(what), m.count(what));
        }
    }

    private void listsAndImages() {
        int card = below(4), on = below(2), reader = below(4), k = below(2);
        switch (random.nextInt(8)) {
            case 0: case 1: case 2: due("bar", x.bar(card, on), m.bar(card, on)); break;
            case 3: case 4: due("hear", x.hear(reader), m.hear(reader)); break;
            case 5: due("pass", x.pass(reader, card), m.pass(reader, card)); break;
            case 6: due("image", x.image(k), m.image(k)); break;
            default:
                // Seldom, lest the runs stay near what was first kept.
                int rare = random.nextInt(3) == 0 ? k : 2;
                due("restore", x.restore(rare), m.restore(rare));
        }
    }

    private void lookAtAll() {
        for (int what = -1; what < 30; what++) {
            due("count " + what, x.count(what), m.count(what));
        }
        for (int card = 0; card < 4; card++) {
            for (int i = -1; i < 49; i++) {
                for (int what = 0; what < 5; what++) {
                    due("ride", x.ride(card, i, what), m.ride(card, i, what));
                    due("journey", x.journey(card, i, what), m.journey(card, i, what));
                    due("told", x.told(card, i, what), m.told(card, i, what));
                }
            }
            for (int day = 0; day < 28; day++) {
                for (int what = 0; what < 4; what++) {
                    due("day", x.day(card, day, what), m.day(card, day, what));
                }
            }
            for (int what = -1; what < 15; what++) {
                due("best", x.best(card, what), m.best(card, what));
                due("saved", x.saved(card, what), m.saved(card, what));
            }
        }
    }
}
