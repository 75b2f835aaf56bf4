import java.util.ArrayList;
import java.util.List;

/** All promises: which of several refusals is answered, and that what is refused, or only asks, changes nothing. */
final class EdgesOfRefusals {
    private static final int UNKNOWN = Sentence.UNKNOWN, OUTSIDE = Sentence.OUTSIDE, NO = Sentence.NO;
    private static final String ORDER = "Calls that are refused answer the first that fits";
    private static final String LAST = "NONE is answered only where no refusal fits.";
    private static final String NOTHING = "What is refused changes nothing.";
    /** The scene has its own calls ahead of these, so that all stay below the most that are promised. */
    private static final int LOOKS_AT_ONCE = 350;

    private final Book book;
    private final List<List<Call>> looks = new ArrayList<>();
    private final List<List<Integer>> answers = new ArrayList<>();

    EdgesOfRefusals(Book book) {
        this.book = book;
    }

    void run() {
        firstThatFits();
        noneIsLast();
        prepareLooks();
        refusedPrices();
        refusedTaps();
        refusedQuestions();
        refusedLists();
        refusedImages();
        questions();
    }

    private void firstThatFits() {
        book.sentence(2, ORDER).due(UNKNOWN, "zone", 8, 0).due(UNKNOWN, "zone", -1, 6);
        tapsFirstThatFits(book.sentence(4, ORDER), "tap");
        tapsFirstThatFits(book.sentence(12, ORDER), "would");
        book.sentence(5, ORDER).due(UNKNOWN, "untap", 4, 28, 0).due(UNKNOWN, "untap", -1, 0, 1440)
            .due(UNKNOWN, "untap", 4, 0, 0).due(OUTSIDE, "untap", 0, 28, 0).due(OUTSIDE, "untap", 0, 0, -1);
        book.sentence(6, ORDER).due(UNKNOWN, "told", 4, 0, 4).due(UNKNOWN, "told", -1, -1, -1);
        book.sentence(7, ORDER).due(UNKNOWN, "ride", 4, -2, 5).due(UNKNOWN, "ride", -1, 0, -1);
        book.sentence(8, ORDER).due(UNKNOWN, "journey", 4, -2, 5).due(UNKNOWN, "journey", -1, 0, -1);
        book.sentence(9, ORDER).due(UNKNOWN, "day", 4, 28, 0).due(UNKNOWN, "day", -1, 0, 4);
        book.sentence(10, ORDER).due(UNKNOWN, "best", 4, 2).due(UNKNOWN, "best", -1, 14);
        book.sentence(11, ORDER).due(UNKNOWN, "saved", 4, 2).due(UNKNOWN, "saved", -1, -1);
        book.sentence(13, ORDER).due(UNKNOWN, "bar", 4, 2).due(UNKNOWN, "bar", -1, -1);
        book.sentence(15, ORDER).due(UNKNOWN, "pass", 4, 4).due(UNKNOWN, "pass", -1, -1);
        book.sentence(17, ORDER).due(OUTSIDE, "restore", 2).due(OUTSIDE, "restore", -1);
    }

    private static void tapsFirstThatFits(Sentence s, String call) {
        for (int i = 0; i < 48; i++) {
            s.did("tap", 0, 5, i, 0, 0);
        }
        s.due(UNKNOWN, call, 4, 28, 0, 0, 0).due(UNKNOWN, call, 4, 0, 0, 8, 0).due(UNKNOWN, call, 0, 28, 1440, 8, 2);
        s.due(UNKNOWN, call, 0, 5, 0, 8, 0).due(UNKNOWN, call, 0, 6, 0, -1, 0).due(UNKNOWN, call, 0, 0, 0, 8, 2);
        s.due(OUTSIDE, call, 0, 5, 0, 0, 2).due(OUTSIDE, call, 0, 28, 0, 0, 0).due(OUTSIDE, call, 0, 5, 1440, 0, 0);
        s.due(OUTSIDE, call, 0, 6, -1440, 0, 0).due(OUTSIDE, call, 0, 6, 0, 0, -1).due(NO, call, 0, 5, 0, 0, 0);
        s.due(NO, call, 0, 5, 47, 7, 1).due(Sentence.FULL, call, 0, 5, 48, 7, 1);
        s.due(Sentence.FULL, call, 0, 6, 0, 0, 0);
    }

    private void noneIsLast() {
        book.sentence(6, LAST).due(OUTSIDE, "told", 0, 0, 4).due(OUTSIDE, "told", 0, -1, -1)
            .due(UNKNOWN, "told", 4, -1, 0).due(Sentence.NONE, "told", 0, -1, 0);
        book.sentence(7, LAST).due(OUTSIDE, "ride", 0, 0, 5).due(OUTSIDE, "ride", 0, 48, -1)
            .due(UNKNOWN, "ride", 4, 0, 0).due(Sentence.NONE, "ride", 0, 0, 0);
        book.sentence(8, LAST).due(OUTSIDE, "journey", 0, 0, 5).due(OUTSIDE, "journey", 0, 48, -1)
            .due(UNKNOWN, "journey", 4, 0, 0).due(Sentence.NONE, "journey", 0, 0, 0);
        book.sentence(10, LAST).due(OUTSIDE, "best", 0, 14).due(UNKNOWN, "best", 4, 10)
            .due(Sentence.NONE, "best", 0, 13);
    }

    // ---- a scene, and all that can be seen of it

    /** Something of everything: a full CARD, a mended RIDE, a WEEK, a lagging READER, two IMAGES, other prices. */
    private static Sentence scene(Sentence s) {
        s.anew().whole(0, 1, 500, 0, 2).whole(0, 3, 600, 2, 4).did("tap", 0, 4, 700, 2, 0);
        s.did("bar", 1, 1).did("hear", 3).did("image", 0);
        s.did("zone", 2, 5).did("price", 0, 5, 444).did("price", 1, 2, 222).did("price", 2, 5, 555);
        s.did("price", 3, 0, 33).did("price", 4, 0, 44).whole(1, 0, 0, 1, 2).did("bar", 2, 1).did("hear", 0);
        s.did("image", 1);
        s.whole(0, 27, 1438, 7, 6).did("bar", 1, 0).did("hear", 1).did("bar", 0, 1).did("tap", 2, 9, 9, 3, 1);
        for (int i = 0; i < 48; i++) {
            s.did("tap", 3, i % 28, 20 * i, i % 8, i % 3 % 2);
        }
        return s;
    }

    private void prepareLooks() {
        List<Call> all = new ArrayList<>();
        for (int what = 0; what < 28; what++) {
            all.add(new Call("count", what));
        }
        for (int card = 0; card < 4; card++) {
            addLooksAt(all, card);
        }
        // The prices come last: they can be seen only by putting others in their place.
        for (int what = 0; what < 5; what++) {
            for (int w = 1; w <= (what < 3 ? 5 : 1); w++) {
                all.add(new Call("price", what, w, 0));
            }
        }
        for (int kept = -1; kept < 2; kept++) {
            for (int from = 0; from < all.size(); from += LOOKS_AT_ONCE) {
                List<Call> some = new ArrayList<>();
                if (kept >= 0) {
                    some.add(new Call("restore", kept));
                }
                some.addAll(all.subList(from, Math.min(all.size(), from + LOOKS_AT_ONCE)));
                looks.add(some);
            }
        }
        Sentence untouched = book.sentence(1, NOTHING);
        for (List<Call> some : looks) {
            scene(untouched);
            List<Integer> seen = new ArrayList<>();
            for (Call look : some) {
                seen.add(untouched.answer(look));
            }
            answers.add(seen);
        }
    }

    private static void addLooksAt(List<Call> all, int card) {
        int most = card == 3 ? 48 : 8;
        for (int i = -1; i <= most; i++) {
            for (int what = 0; what < 5; what++) {
                all.add(new Call("told", card, i, what));
                all.add(new Call("ride", card, i, what));
                all.add(new Call("journey", card, i, what));
            }
        }
        for (int day = 0; day < 28; day++) {
            for (int what = 0; what < 4; what++) {
                all.add(new Call("day", card, day, what));
            }
        }
        for (int what : new int[] {0, 1, 10, 11, 12, 13}) {
            all.add(new Call("best", card, what));
        }
        all.add(new Call("saved", card, 0));
        all.add(new Call("saved", card, 1));
        for (int reader = 0; reader < 4; reader++) {
            all.add(new Call("pass", reader, card));
        }
    }

    /** The call answers as is due, and all looks then as it does without it. */
    private void leaves(Sentence s, int want, String call, int... args) {
        for (int i = 0; i < looks.size(); i++) {
            scene(s).due(want, call, args);
            leavesAlike(s, new Call(call, args), looks.get(i), answers.get(i));
        }
    }

    private static void leavesAlike(Sentence s, Call call, List<Call> looks, List<Integer> before) {
        for (int i = 0; i < looks.size(); i++) {
            int seen = s.answer(looks.get(i));
            if (seen != before.get(i)) {
                s.holds(call + " leaves " + looks.get(i) + " at " + before.get(i) + ", not " + seen, false);
            }
        }
    }

    private void refusedPrices() {
        Sentence zone = book.sentence(2, NOTHING);
        leaves(zone, UNKNOWN, "zone", -1, 1);
        leaves(zone, UNKNOWN, "zone", 8, 1);
        leaves(zone, OUTSIDE, "zone", 0, 0);
        leaves(zone, OUTSIDE, "zone", 0, 6);
        Sentence price = book.sentence(3, NOTHING);
        for (int what = 0; what < 3; what++) {
            leaves(price, OUTSIDE, "price", what, 0, 1);
            leaves(price, OUTSIDE, "price", what, 6, 1);
        }
        for (int what = 0; what < 5; what++) {
            leaves(price, OUTSIDE, "price", what, 1, -1);
            leaves(price, OUTSIDE, "price", what, 1, what == 4 ? 201 : 10000);
        }
        leaves(price, OUTSIDE, "price", -1, 1, 1);
        leaves(price, OUTSIDE, "price", 5, 1, 1);
    }

    private void refusedTaps() {
        for (String call : new String[] {"tap", "would"}) {
            Sentence s = book.sentence(call.equals("tap") ? 4 : 12, NOTHING);
            leaves(s, UNKNOWN, call, -1, 0, 0, 0, 0);
            leaves(s, UNKNOWN, call, 4, 0, 0, 0, 0);
            leaves(s, UNKNOWN, call, 0, 0, 0, -1, 0);
            leaves(s, UNKNOWN, call, 0, 0, 0, 8, 0);
            leaves(s, OUTSIDE, call, 0, -1, 0, 0, 0);
            leaves(s, OUTSIDE, call, 0, 28, 0, 0, 0);
            leaves(s, OUTSIDE, call, 0, 0, -1, 0, 0);
            leaves(s, OUTSIDE, call, 0, 0, 1440, 0, 0);
            leaves(s, OUTSIDE, call, 0, 0, 0, 0, -1);
            leaves(s, OUTSIDE, call, 0, 0, 0, 0, 2);
            leaves(s, NO, call, 0, 1, 500, 7, 1);
            leaves(s, NO, call, 3, 0, 0, 7, 1);
            leaves(s, Sentence.FULL, call, 3, 0, 1, 7, 1);
            leaves(s, Sentence.FULL, call, 3, 27, 1439, 7, 1);
        }
        Sentence untap = book.sentence(5, NOTHING);
        leaves(untap, UNKNOWN, "untap", -1, 1, 500);
        leaves(untap, UNKNOWN, "untap", 4, 1, 500);
        leaves(untap, OUTSIDE, "untap", 0, -1, 500);
        leaves(untap, OUTSIDE, "untap", 0, 28, 500);
        leaves(untap, OUTSIDE, "untap", 0, 2, 500 - 1440);
        leaves(untap, OUTSIDE, "untap", 0, 0, 500 + 1440);
        leaves(untap, NO, "untap", 0, 1, 499);
        leaves(untap, NO, "untap", 0, 0, 500);
    }

    private void refusedQuestions() {
        leavesRefused(6, "told", 4, 0, 0);
        leavesRefused(7, "ride", 4, 0, 0);
        leavesRefused(8, "journey", 4, 0, 0);
        leavesRefused(9, "day", 4, 0, 0);
        leavesRefused(10, "best", 4, 0);
        leavesRefused(11, "saved", 4, 0);
    }

    /** Refused for its CARD; then, with CARD 0, for its last number. */
    private void leavesRefused(int promise, String call, int... args) {
        Sentence s = book.sentence(promise, NOTHING);
        leaves(s, UNKNOWN, call, args);
        int[] other = args.clone();
        other[0] = 0;
        other[other.length - 1] = 99;
        leaves(s, OUTSIDE, call, other);
        other[other.length - 1] = -1;
        leaves(s, OUTSIDE, call, other);
    }

    private void refusedLists() {
        Sentence bar = book.sentence(13, NOTHING);
        leaves(bar, UNKNOWN, "bar", -1, 1);
        leaves(bar, UNKNOWN, "bar", 4, 1);
        leaves(bar, UNKNOWN, "bar", 32, 0);
        leaves(bar, OUTSIDE, "bar", 3, 2);
        leaves(bar, OUTSIDE, "bar", 0, -1);
        Sentence hear = book.sentence(14, NOTHING);
        leaves(hear, UNKNOWN, "hear", -1);
        leaves(hear, UNKNOWN, "hear", 4);
        Sentence pass = book.sentence(15, NOTHING);
        leaves(pass, UNKNOWN, "pass", 4, 0);
        leaves(pass, UNKNOWN, "pass", 0, 4);
    }

    private void refusedImages() {
        Sentence image = book.sentence(16, NOTHING);
        leaves(image, OUTSIDE, "image", -1);
        leaves(image, OUTSIDE, "image", 2);
        leaves(image, OUTSIDE, "image", 32);
        Sentence restore = book.sentence(17, NOTHING);
        leaves(restore, OUTSIDE, "restore", -1);
        leaves(restore, OUTSIDE, "restore", 2);
        leaves(restore, OUTSIDE, "restore", 33);
        Sentence count = book.sentence(18, NOTHING);
        leaves(count, OUTSIDE, "count", -1);
        leaves(count, OUTSIDE, "count", 9);
        leaves(count, OUTSIDE, "count", 28);
    }

    /** Calls that are granted, but only ask; and such as put what is there already. */
    private void questions() {
        leaves(book.sentence(2, "(or the same)"), 5, "zone", 2, 5);
        leaves(book.sentence(3, "which it was"), 444, "price", 0, 5, 444);
        leaves(book.sentence(6, "NONE: there is none such (i below 0, too)"), Sentence.NONE, "told", 0, -1, 0);
        leaves(book.sentence(7, "NONE: there is none such."), Sentence.NONE, "ride", 0, 99, 0);
        leaves(book.sentence(8, "NONE: there is none such."), Sentence.NONE, "journey", 0, 99, 0);
        // A WEEK in place of what DAY 27 OWES takes both.
        leaves(book.sentence(12, "would COST with one TAP more"), 100000 + 555 - 222, "would", 0, 22, 0, 5, 0);
        leaves(book.sentence(13, "that was not so"), 4, "bar", 0, 1);
        leaves(book.sentence(13, "that was not so"), 4, "bar", 1, 0);
    }
}
