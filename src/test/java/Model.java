import java.util.ArrayList;
import java.util.Arrays;
import java.util.HashSet;
import java.util.List;
import java.util.Map;
import java.util.Set;
import java.util.TreeMap;

/** The document told a second time, slowly and with other means, for RandomTest to compare with. */
final class Model {
    private static final int UNKNOWN = -1, OUTSIDE = -2, STATE = -3, FULL = -4, NO = -5, NONE = -6;

    private static final class Tap {
        final int day, minute, station, way;

        Tap(int day, int minute, int station, int way) {
            this.day = day;
            this.minute = minute;
            this.station = station;
            this.way = way;
        }
    }

    private static final class Ride {
        Tap in, out;
        Integer begin, end;
        int journey;

        Tap first() {
            return in != null ? in : out;
        }

        boolean whole() {
            return in != null && out != null;
        }

        boolean lame() {
            return begin == null || end == null;
        }
    }

    /** All but IMAGES. */
    private static final class All {
        int[] zones = {1, 2, 3, 4, 5, 1, 2, 3};
        int[][] prices = new int[3][6];
        int more = 50, near = 30;
        List<TreeMap<Integer, Tap>> cards = new ArrayList<>();
        Set<Integer> barred = new HashSet<>();
        int number = 0;
        List<Set<Integer>> heard = new ArrayList<>();
        int[] heardNumbers = new int[4];

        All() {
            for (int w = 1; w <= 5; w++) {
                prices[0][w] = 150 + 50 * w;
                prices[1][w] = 400 + 100 * w;
                prices[2][w] = 1500 + 400 * w;
            }
            for (int i = 0; i < 4; i++) {
                cards.add(new TreeMap<>());
                heard.add(new HashSet<>());
            }
        }

        All copy() {
            All to = new All();
            to.zones = zones.clone();
            for (int i = 0; i < 3; i++) {
                to.prices[i] = prices[i].clone();
            }
            to.more = more;
            to.near = near;
            to.number = number;
            to.barred = new HashSet<>(barred);
            to.heardNumbers = heardNumbers.clone();
            for (int i = 0; i < 4; i++) {
                to.cards.set(i, new TreeMap<>(cards.get(i)));
                to.heard.set(i, new HashSet<>(heard.get(i)));
            }
            return to;
        }
    }

    private All all = new All();
    private final All[] images = new All[2];

    private static boolean in(int n, int least, int most) {
        return least <= n && n <= most;
    }

    int zone(int station, int n) {
        if (!in(station, 0, 7)) return UNKNOWN;
        if (!in(n, 1, 5)) return OUTSIDE;
        int was = all.zones[station];
        all.zones[station] = n;
        return was;
    }

    int price(int what, int w, int n) {
        if (!in(what, 0, 4)) return OUTSIDE;
        if (what < 3 && !in(w, 1, 5)) return OUTSIDE;
        if (!in(n, 0, what == 4 ? 200 : 9999)) return OUTSIDE;
        int was;
        if (what < 3) {
            was = all.prices[what][w];
            all.prices[what][w] = n;
        } else if (what == 3) {
            was = all.more;
            all.more = n;
        } else {
            was = all.near;
            all.near = n;
        }
        return was;
    }

    private int tapRefusal(int card, int day, int minute, int station, int way) {
        if (!in(card, 0, 3)) return UNKNOWN;
        if (!in(station, 0, 7)) return UNKNOWN;
        if (!in(day, 0, 27)) return OUTSIDE;
        if (!in(minute, 0, 1439)) return OUTSIDE;
        if (!in(way, 0, 1)) return OUTSIDE;
        if (all.cards.get(card).containsKey(day * 10000 + minute)) return NO;
        if (all.cards.get(card).size() == 48) return FULL;
        return 1;
    }

    int tap(int card, int day, int minute, int station, int way) {
        int refusal = tapRefusal(card, day, minute, station, way);
        if (refusal < 0) return refusal;
        all.cards.get(card).put(day * 10000 + minute, new Tap(day, minute, station, way));
        return all.cards.get(card).size();
    }

    int untap(int card, int day, int minute) {
        if (!in(card, 0, 3)) return UNKNOWN;
        if (!in(day, 0, 27) || !in(minute, 0, 1439)) return OUTSIDE;
        if (all.cards.get(card).remove(day * 10000 + minute) == null) return NO;
        return all.cards.get(card).size();
    }

    int told(int card, int i, int what) {
        if (!in(card, 0, 3)) return UNKNOWN;
        if (!in(what, 0, 3)) return OUTSIDE;
        List<Tap> taps = new ArrayList<>(all.cards.get(card).values());
        if (i < 0 || i >= taps.size()) return NONE;
        Tap tap = taps.get(i);
        return new int[] {tap.day, tap.minute, tap.station, tap.way}[what];
    }

    private List<Ride> rides(Map<Integer, Tap> of) {
        List<Tap> taps = new ArrayList<>(of.values());
        List<Ride> rides = new ArrayList<>();
        while (!taps.isEmpty()) {
            Ride ride = new Ride();
            Tap tap = taps.remove(0);
            if (tap.way == 1) {
                ride.out = tap;
            } else {
                ride.in = tap;
                if (!taps.isEmpty() && taps.get(0).way == 1 && taps.get(0).day == tap.day) {
                    ride.out = taps.remove(0);
                }
            }
            rides.add(ride);
        }
        for (int i = 0; i < rides.size(); i++) {
            mend(rides, i);
        }
        joinJourneys(rides);
        return rides;
    }

    private void mend(List<Ride> rides, int i) {
        Ride ride = rides.get(i);
        ride.begin = ride.in == null ? null : (Integer) ride.in.station;
        ride.end = ride.out == null ? null : (Integer) ride.out.station;
        for (int j = i - 1; j >= 0 && ride.lame(); j--) {
            Ride other = rides.get(j);
            if (!other.whole()) continue;
            if (ride.out == null && other.in.station == ride.in.station) ride.end = other.out.station;
            else if (ride.in == null && other.out.station == ride.out.station) ride.begin = other.in.station;
        }
    }

    private void joinJourneys(List<Ride> rides) {
        for (int i = 0, inJourney = 0; i < rides.size(); i++) {
            Ride ride = rides.get(i);
            Ride before = i == 0 ? null : rides.get(i - 1);
            boolean joins = before != null && before.whole() && ride.whole()
                && before.in.day == ride.in.day && inJourney < 3
                && ride.in.minute <= before.out.minute + all.near && ride.in.station == before.out.station;
            inJourney = joins ? inJourney + 1 : 1;
            ride.journey = before == null ? 0 : before.journey + (joins ? 0 : 1);
        }
    }

    private List<List<Ride>> journeys(Map<Integer, Tap> of) {
        List<List<Ride>> journeys = new ArrayList<>();
        for (Ride ride : rides(of)) {
            if (ride.journey == journeys.size()) journeys.add(new ArrayList<>());
            journeys.get(ride.journey).add(ride);
        }
        return journeys;
    }

    private static boolean busy(List<Ride> journey) {
        Tap tap = journey.get(0).first();
        boolean free = Arrays.asList(5, 6, 12, 13, 19, 20, 26, 27).contains(tap.day);
        return !free && (in(tap.minute, 420, 569) || in(tap.minute, 960, 1109));
    }

    private int width(List<Ride> journey) {
        TreeMap<Integer, Integer> zones = new TreeMap<>();
        for (Ride ride : journey) {
            if (ride.lame()) return 5;
            zones.put(all.zones[ride.begin], 0);
            zones.put(all.zones[ride.end], 0);
        }
        return zones.lastKey() - zones.firstKey() + 1;
    }

    private int cost(List<Ride> journey) {
        return all.prices[0][width(journey)] + (busy(journey) ? all.more : 0);
    }

    int ride(int card, int i, int what) {
        if (!in(card, 0, 3)) return UNKNOWN;
        if (i < -1 || !in(what, 0, 4)) return OUTSIDE;
        List<Ride> rides = rides(all.cards.get(card));
        if (i == -1) return rides.size();
        if (i >= rides.size()) return NONE;
        Ride ride = rides.get(i);
        if (what == 0) return ride.begin == null ? NONE : ride.begin;
        if (what == 1) return ride.end == null ? NONE : ride.end;
        if (what == 2) return ride.whole() ? 0 : ride.out == null ? 1 : 2;
        if (what == 3) return ride.lame() ? 1 : 0;
        return ride.journey;
    }

    int journey(int card, int i, int what) {
        if (!in(card, 0, 3)) return UNKNOWN;
        if (i < -1 || !in(what, 0, 4)) return OUTSIDE;
        List<List<Ride>> journeys = journeys(all.cards.get(card));
        if (i == -1) return journeys.size();
        if (i >= journeys.size()) return NONE;
        List<Ride> journey = journeys.get(i);
        if (what == 0) return journey.get(0).first().day;
        if (what == 1) return journey.size();
        if (what == 2) return width(journey);
        if (what == 3) return cost(journey);
        return busy(journey) ? 1 : 0;
    }

    /** By DAY: SUM, WIDTH, what it OWES. */
    private int[][] days(Map<Integer, Tap> of) {
        int[][] days = new int[28][3];
        for (List<Ride> journey : journeys(of)) {
            int[] day = days[journey.get(0).first().day];
            day[0] += cost(journey);
            day[1] = Math.max(day[1], width(journey));
        }
        for (int[] day : days) {
            day[2] = day[1] == 0 ? 0 : Math.min(day[0], all.prices[1][day[1]]);
        }
        return days;
    }

    private int planCost(int[][] days, List<Integer> starts) {
        int cost = 0;
        boolean[] covered = new boolean[28];
        for (int start : starts) {
            int widest = 0;
            for (int d = start; d < start + 7; d++) {
                covered[d] = true;
                widest = Math.max(widest, days[d][1]);
            }
            cost += widest == 0 ? 0 : all.prices[2][widest];
        }
        for (int d = 0; d < 28; d++) {
            cost += covered[d] ? 0 : days[d][2];
        }
        return cost;
    }

    private static void addPlans(List<List<Integer>> plans, List<Integer> begun, int from) {
        plans.add(begun);
        for (int start = from; start <= 21; start++) {
            List<Integer> longer = new ArrayList<>(begun);
            longer.add(start);
            addPlans(plans, longer, start + 7);
        }
    }

    private static final List<List<Integer>> PLANS = new ArrayList<>();
    static {
        addPlans(PLANS, new ArrayList<>(), 0);
    }

    private static boolean isBetter(int cost, List<Integer> plan, int otherCost, List<Integer> other) {
        if (cost != otherCost) return cost < otherCost;
        if (plan.size() != other.size()) return plan.size() < other.size();
        for (int k = 0; k < plan.size(); k++) {
            if (!plan.get(k).equals(other.get(k))) return plan.get(k) < other.get(k);
        }
        return false;
    }

    private List<Integer> bestPlan(int[][] days) {
        List<Integer> best = PLANS.get(0);
        int bestCost = planCost(days, best);
        for (List<Integer> plan : PLANS) {
            int cost = planCost(days, plan);
            if (isBetter(cost, plan, bestCost, best)) {
                best = plan;
                bestCost = cost;
            }
        }
        return best;
    }

    private int bestCost(Map<Integer, Tap> of) {
        int[][] days = days(of);
        return planCost(days, bestPlan(days));
    }

    int day(int card, int day, int what) {
        if (!in(card, 0, 3)) return UNKNOWN;
        if (!in(day, 0, 27) || !in(what, 0, 3)) return OUTSIDE;
        int[][] days = days(all.cards.get(card));
        if (what < 3) return days[day][what];
        for (int start : bestPlan(days)) {
            if (in(day, start, start + 6)) return 1;
        }
        return 0;
    }

    int best(int card, int what) {
        if (!in(card, 0, 3)) return UNKNOWN;
        if (!Arrays.asList(0, 1, 10, 11, 12, 13).contains(what)) return OUTSIDE;
        int[][] days = days(all.cards.get(card));
        List<Integer> plan = bestPlan(days);
        if (what == 0) return planCost(days, plan);
        if (what == 1) return plan.size();
        return what - 10 >= plan.size() ? NONE : plan.get(what - 10);
    }

    int saved(int card, int what) {
        if (!in(card, 0, 3)) return UNKNOWN;
        if (!in(what, 0, 1)) return OUTSIDE;
        int sums = 0, owed = 0;
        for (int[] day : days(all.cards.get(card))) {
            sums += day[0];
            owed += day[2];
        }
        return what == 0 ? sums - owed : owed - bestCost(all.cards.get(card));
    }

    int would(int card, int day, int minute, int station, int way) {
        int refusal = tapRefusal(card, day, minute, station, way);
        if (refusal < 0) return refusal;
        Map<Integer, Tap> more = new TreeMap<>(all.cards.get(card));
        more.put(day * 10000 + minute, new Tap(day, minute, station, way));
        return 100000 + bestCost(more) - bestCost(all.cards.get(card));
    }

    int bar(int card, int on) {
        if (!in(card, 0, 3)) return UNKNOWN;
        if (!in(on, 0, 1)) return OUTSIDE;
        if (on == 1 ? all.barred.add(card) : all.barred.remove(card)) all.number++;
        return all.number;
    }

    int hear(int reader) {
        if (!in(reader, 0, 3)) return UNKNOWN;
        int more = all.number - all.heardNumbers[reader];
        all.heardNumbers[reader] = all.number;
        all.heard.set(reader, new HashSet<>(all.barred));
        return more;
    }

    int pass(int reader, int card) {
        if (!in(reader, 0, 3) || !in(card, 0, 3)) return UNKNOWN;
        return all.heard.get(reader).contains(card) ? 0 : 1;
    }

    int image(int k) {
        if (!in(k, 0, 1)) return OUTSIDE;
        images[k] = all.copy();
        return 1;
    }

    int restore(int k) {
        if (!in(k, 0, 1)) return OUTSIDE;
        if (images[k] == null) return STATE;
        all = images[k].copy();
        return 1;
    }

    int count(int what) {
        if (in(what, 0, 3)) return all.cards.get(what).size();
        if (what == 4) return all.number;
        if (what == 5) {
            int bits = 0;
            for (int card : all.barred) bits += 1 << card;
            return bits;
        }
        if (what == 6) {
            int lag = 0;
            for (int n : all.heardNumbers) lag += n < all.number ? 1 : 0;
            return lag;
        }
        if (what == 7) {
            int sum = 0;
            for (Map<Integer, Tap> taps : all.cards) sum += bestCost(taps);
            return sum;
        }
        if (what == 8) return (images[0] == null ? 0 : 1) + (images[1] == null ? 0 : 2);
        if (in(what, 10, 13)) return all.heardNumbers[what - 10];
        if (in(what, 20, 27)) return all.zones[what - 20];
        return OUTSIDE;
    }
}
