/** A test of one sentence of the document: calls on a new ledger, each with the answer that is due. */
final class Sentence {
    static final int UNKNOWN = -1, OUTSIDE = -2, STATE = -3, FULL = -4, NO = -5, NONE = -6;
    /** The document promises nothing behind this many calls. */
    static final int MOST_CALLS = 512;

    private final Check check;
    private final String name;
    private TapLedger ledger;
    private int calls;

    Sentence(Check check, int promise, String words) {
        this.check = check;
        name = "promise " + promise + ", \"" + words + "\"";
        anew();
    }

    /** Goes on with another new ledger. */
    Sentence anew() {
        ledger = new TapLedger();
        calls = 0;
        return this;
    }

    int answer(Call call) {
        calls++;
        check.holds(name + ": a test makes no more calls than are promised", calls <= MOST_CALLS);
        return call.on(ledger);
    }

    Sentence due(int want, String call, int... args) {
        Call asked = new Call(call, args);
        check.due(name + ": " + asked, answer(asked), want);
        return this;
    }

    /** A call that must be granted, whose answer another test is for. */
    Sentence did(String call, int... args) {
        Call asked = new Call(call, args);
        check.holds(name + ": " + asked + " is granted", answer(asked) >= 0);
        return this;
    }

    Sentence holds(String claim, boolean ok) {
        check.holds(name + ": " + claim, ok);
        return this;
    }

    /** A WHOLE RIDE of two minutes; out of BUSY MINUTES it costs the FARE alone. */
    Sentence whole(int card, int day, int minute, int from, int to) {
        return did("tap", card, day, minute, from, 0).did("tap", card, day, minute + 1, to, 1);
    }

    /** What ride() tells of a RIDE: begins, ends, what it lacks, LAME, of which JOURNEY. */
    Sentence dueRide(int card, int i, int... want) {
        return dueAll("ride", card, i, want);
    }

    /** What journey() tells: DAY, RIDES, WIDTH, cost, BUSY. */
    Sentence dueJourney(int card, int i, int... want) {
        return dueAll("journey", card, i, want);
    }

    /** What told() tells: DAY, MINUTE, STATION, way. */
    Sentence dueTap(int card, int i, int... want) {
        return dueAll("told", card, i, want);
    }

    /** What day() tells: SUM, WIDTH, what it OWES, whether it is of a WEEK. */
    Sentence dueDay(int card, int day, int... want) {
        return dueAll("day", card, day, want);
    }

    /** THE BEST: its cost, and on which DAYS its WEEKS begin. */
    Sentence dueBest(int card, int cost, int... begins) {
        due(cost, "best", card, 0).due(begins.length, "best", card, 1);
        for (int k = 0; k < 4; k++) {
            due(k < begins.length ? begins[k] : NONE, "best", card, 10 + k);
        }
        return this;
    }

    private Sentence dueAll(String call, int card, int i, int... want) {
        for (int what = 0; what < want.length; what++) {
            due(want[what], call, card, i, what);
        }
        return this;
    }

    /** Numbers that are not least to most: just beside, far off, and such as a shift or a narrower type would wrap. */
    static int[] beyond(int least, int most) {
        return new int[] {
            least - 1, most + 1, least - 2, most + 2, -1 - most - 1, most + 32, most + 256, most + 65536,
            Integer.MIN_VALUE, Integer.MIN_VALUE + 1, Integer.MAX_VALUE - 1, Integer.MAX_VALUE
        };
    }
}
