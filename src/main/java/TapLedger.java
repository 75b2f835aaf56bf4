/** Fares by taps: what cards owe for their taps, in whatever order those came. */
public final class TapLedger {
    public static final int UNKNOWN = -1, OUTSIDE = -2, STATE = -3, FULL = -4, NO = -5, NONE = -6;

    private static final int GRANTED = 0;
    private static final int CARDS = 4;
    private static final int STATIONS = 8;
    private static final int READERS = 4;
    private static final int IMAGES = 2;
    private static final int DAYS = 28;
    private static final int MINUTES = 1440;
    private static final int MOST_TAPS = 48;
    private static final int WIDEST = 5;
    private static final int WEEK_DAYS = 7;
    private static final int MOST_WEEKS = 4;
    private static final int WOULD_BASE = 100000;

    private final State now;
    private final State firstImage;
    private final State secondImage;
    private int keptImages;
    private final Taps trial;
    private final Bill bill;

    public TapLedger() {
        now = new State();
        firstImage = new State();
        secondImage = new State();
        keptImages = 0;
        trial = new Taps();
        bill = new Bill();
    }

    // ---- 1 prices

    public int zone(int station, int n) {
        if (!isStation(station)) {
            return UNKNOWN;
        }
        if (!isWidth(n)) {
            return OUTSIDE;
        }
        int before = now.tariff.zoneOf(station);
        now.tariff.putZone(station, n);
        return before;
    }

    public int price(int what, int w, int n) {
        if (!isPrice(what, w, n)) {
            return OUTSIDE;
        }
        int before = now.tariff.valueOf(what, w);
        now.tariff.putValue(what, w, n);
        return before;
    }

    // ---- 2 taps

    public int tap(int card, int day, int minute, int station, int way) {
        int refusal = refusalOfTap(card, day, minute, station, way);
        if (refusal != GRANTED) {
            return refusal;
        }
        Taps taps = now.tapsOf(card);
        taps.insert(momentOf(day, minute), station, way);
        return taps.size();
    }

    public int untap(int card, int day, int minute) {
        if (!isCard(card)) {
            return UNKNOWN;
        }
        if (!isDay(day) || !isMinute(minute)) {
            return OUTSIDE;
        }
        Taps taps = now.tapsOf(card);
        int place = taps.find(momentOf(day, minute));
        if (place < 0) {
            return NO;
        }
        taps.remove(place);
        return taps.size();
    }

    public int told(int card, int i, int what) {
        if (!isCard(card)) {
            return UNKNOWN;
        }
        if (!isWithin(what, 0, 3)) {
            return OUTSIDE;
        }
        Taps taps = now.tapsOf(card);
        if (i < 0 || i >= taps.size()) {
            return NONE;
        }
        switch (what) {
            case 0: return dayOf(taps.moment(i));
            case 1: return minuteOf(taps.moment(i));
            case 2: return taps.station(i);
            default: return taps.way(i);
        }
    }

    // ---- 3 rides, journeys

    public int ride(int card, int i, int what) {
        int refusal = refusalOfPart(card, i, what);
        if (refusal != GRANTED) {
            return refusal;
        }
        reckon(card);
        Rides rides = bill.rides;
        if (i < 0) {
            return rides.size();
        }
        if (i >= rides.size()) {
            return NONE;
        }
        switch (what) {
            case 0: return rides.beginStation(i);
            case 1: return rides.endStation(i);
            case 2: return rides.kind(i);
            case 3: return rides.isLame(i) ? 1 : 0;
            default: return bill.journeys.journeyOfRide(i);
        }
    }

    public int journey(int card, int i, int what) {
        int refusal = refusalOfPart(card, i, what);
        if (refusal != GRANTED) {
            return refusal;
        }
        reckon(card);
        Journeys journeys = bill.journeys;
        if (i < 0) {
            return journeys.size();
        }
        if (i >= journeys.size()) {
            return NONE;
        }
        switch (what) {
            case 0: return dayOf(journeys.moment(i));
            case 1: return journeys.ridesIn(i);
            case 2: return journeys.width(i);
            case 3: return journeys.cost(i);
            default: return isBusy(journeys.moment(i)) ? 1 : 0;
        }
    }

    // ---- 4 what is owed

    public int day(int card, int day, int what) {
        if (!isCard(card)) {
            return UNKNOWN;
        }
        if (!isDay(day) || !isWithin(what, 0, 3)) {
            return OUTSIDE;
        }
        reckon(card);
        switch (what) {
            case 0: return bill.days.sum(day);
            case 1: return bill.days.width(day);
            case 2: return bill.days.owed(day);
            default: return bill.plan.isInWeek(day) ? 1 : 0;
        }
    }

    public int best(int card, int what) {
        if (!isCard(card)) {
            return UNKNOWN;
        }
        if (!isWithin(what, 0, 1) && !isWithin(what, 10, 13)) {
            return OUTSIDE;
        }
        reckon(card);
        Plan plan = bill.plan;
        if (what == 0) {
            return plan.cost();
        }
        if (what == 1) {
            return plan.weeks();
        }
        return what - 10 < plan.weeks() ? plan.start(what - 10) : NONE;
    }

    public int saved(int card, int what) {
        if (!isCard(card)) {
            return UNKNOWN;
        }
        if (!isWithin(what, 0, 1)) {
            return OUTSIDE;
        }
        reckon(card);
        int owed = bill.days.allOwed();
        return what == 0 ? bill.days.allSums() - owed : owed - bill.plan.cost();
    }

    public int would(int card, int day, int minute, int station, int way) {
        int refusal = refusalOfTap(card, day, minute, station, way);
        if (refusal != GRANTED) {
            return refusal;
        }
        reckon(card);
        int before = bill.plan.cost();
        trial.copyFrom(now.tapsOf(card));
        trial.insert(momentOf(day, minute), station, way);
        bill.reckon(trial, now.tariff);
        return bill.plan.cost() - before + WOULD_BASE;
    }

    // ---- 5 lists

    public int bar(int card, int on) {
        if (!isCard(card)) {
            return UNKNOWN;
        }
        if (!isWithin(on, 0, 1)) {
            return OUTSIDE;
        }
        now.list.putBarred(card, on == 1);
        return now.list.number();
    }

    public int hear(int reader) {
        if (!isReader(reader)) {
            return UNKNOWN;
        }
        int before = now.list.numberAt(reader);
        now.list.bringTo(reader);
        return now.list.number() - before;
    }

    public int pass(int reader, int card) {
        if (!isReader(reader) || !isCard(card)) {
            return UNKNOWN;
        }
        return now.list.isBarredAt(reader, card) ? 0 : 1;
    }

    // ---- 6 images

    public int image(int k) {
        if (!isImage(k)) {
            return OUTSIDE;
        }
        imageOf(k).copyFrom(now);
        keptImages |= 1 << k;
        return 1;
    }

    public int restore(int k) {
        if (!isImage(k)) {
            return OUTSIDE;
        }
        if ((keptImages >> k & 1) == 0) {
            return STATE;
        }
        now.copyFrom(imageOf(k));
        return 1;
    }

    public int count(int what) {
        if (isCard(what)) {
            return now.tapsOf(what).size();
        }
        if (isWithin(what, 10, 9 + READERS)) {
            return now.list.numberAt(what - 10);
        }
        if (isWithin(what, 20, 19 + STATIONS)) {
            return now.tariff.zoneOf(what - 20);
        }
        switch (what) {
            case 4: return now.list.number();
            case 5: return now.list.barred();
            case 6: return now.list.laggards();
            case 7: return costOfAllCards();
            case 8: return keptImages;
            default: return OUTSIDE;
        }
    }

    // ---- what the calls share

    private int refusalOfTap(int card, int day, int minute, int station, int way) {
        if (!isCard(card) || !isStation(station)) {
            return UNKNOWN;
        }
        if (!isDay(day) || !isMinute(minute) || !isWithin(way, 0, 1)) {
            return OUTSIDE;
        }
        Taps taps = now.tapsOf(card);
        if (taps.find(momentOf(day, minute)) >= 0) {
            return NO;
        }
        return taps.size() >= MOST_TAPS ? FULL : GRANTED;
    }

    /** What ride() and journey() refuse alike. */
    private static int refusalOfPart(int card, int i, int what) {
        if (!isCard(card)) {
            return UNKNOWN;
        }
        return i < -1 || !isWithin(what, 0, 4) ? OUTSIDE : GRANTED;
    }

    private void reckon(int card) {
        bill.reckon(now.tapsOf(card), now.tariff);
    }

    private int costOfAllCards() {
        int sum = 0;
        for (int card = 0; card < CARDS; card++) {
            bill.reckon(now.tapsOf(card), now.tariff);
            sum += bill.plan.cost();
        }
        return sum;
    }

    private State imageOf(int k) {
        return k == 0 ? firstImage : secondImage;
    }

    private static boolean isWithin(int n, int least, int most) {
        return n >= least && n <= most;
    }

    private static boolean isCard(int n) {
        return isWithin(n, 0, CARDS - 1);
    }

    private static boolean isStation(int n) {
        return isWithin(n, 0, STATIONS - 1);
    }

    private static boolean isReader(int n) {
        return isWithin(n, 0, READERS - 1);
    }

    private static boolean isImage(int n) {
        return isWithin(n, 0, IMAGES - 1);
    }

    private static boolean isDay(int n) {
        return isWithin(n, 0, DAYS - 1);
    }

    private static boolean isMinute(int n) {
        return isWithin(n, 0, MINUTES - 1);
    }

    /** ZONES have the same bounds as WIDTHS. */
    private static boolean isWidth(int n) {
        return isWithin(n, 1, WIDEST);
    }

    private static boolean isPrice(int what, int w, int n) {
        if (what == Tariff.NEAR) {
            return isWithin(n, 0, 200);
        }
        if (what == Tariff.MORE) {
            return isWithin(n, 0, 9999);
        }
        return isWithin(what, Tariff.FARE, Tariff.WEEK) && isWidth(w) && isWithin(n, 0, 9999);
    }

    /** One number for a MINUTE of a DAY, so that TAPS go by one key. */
    private static int momentOf(int day, int minute) {
        return day * MINUTES + minute;
    }

    private static int dayOf(int moment) {
        return moment / MINUTES;
    }

    private static int minuteOf(int moment) {
        return moment % MINUTES;
    }

    private static boolean isBusy(int moment) {
        if (dayOf(moment) % WEEK_DAYS >= 5) {
            return false;
        }
        int minute = minuteOf(moment);
        return isWithin(minute, 420, 569) || isWithin(minute, 960, 1109);
    }

    /** Numbers in a row of fixed length: no index can make it fail. */
    private static final class Row {
        private final int[] cells;

        Row(int length) {
            cells = new int[length < 0 ? 0 : length];
        }

        int at(int i) {
            return i >= 0 && i < cells.length ? cells[i] : 0;
        }

        void put(int i, int value) {
            if (i >= 0 && i < cells.length) {
                cells[i] = value;
            }
        }

        void add(int i, int more) {
            put(i, at(i) + more);
        }

        void fill(int value) {
            for (int i = 0; i < cells.length; i++) {
                cells[i] = value;
            }
        }

        int sum() {
            int sum = 0;
            for (int i = 0; i < cells.length; i++) {
                sum += cells[i];
            }
            return sum;
        }

        void copyFrom(Row other) {
            for (int i = 0; i < cells.length; i++) {
                cells[i] = other.at(i);
            }
        }
    }

    /** The TAPS of one CARD, in their order. */
    private static final class Taps {
        private final Row moments = new Row(MOST_TAPS);
        private final Row stations = new Row(MOST_TAPS);
        private final Row ways = new Row(MOST_TAPS);
        private int size = 0;

        int size() {
            return size;
        }

        int moment(int i) {
            return moments.at(i);
        }

        int station(int i) {
            return stations.at(i);
        }

        int way(int i) {
            return ways.at(i);
        }

        /** The place of the TAP at a moment; -1: there is none. */
        int find(int moment) {
            for (int i = 0; i < size; i++) {
                if (moments.at(i) == moment) {
                    return i;
                }
            }
            return -1;
        }

        void insert(int moment, int station, int way) {
            if (size >= MOST_TAPS) {
                return;
            }
            int place = size;
            while (place > 0 && moments.at(place - 1) > moment) {
                move(place - 1, place);
                place--;
            }
            moments.put(place, moment);
            stations.put(place, station);
            ways.put(place, way);
            size++;
        }

        void remove(int place) {
            if (place < 0 || place >= size) {
                return;
            }
            for (int i = place + 1; i < size; i++) {
                move(i, i - 1);
            }
            size--;
        }

        private void move(int from, int to) {
            moments.put(to, moments.at(from));
            stations.put(to, stations.at(from));
            ways.put(to, ways.at(from));
        }

        /** Whether the i-th TAP and the next one are a WHOLE RIDE. */
        boolean isWholeFrom(int i) {
            return i >= 0 && i + 1 < size && ways.at(i) == 0 && ways.at(i + 1) == 1
                && dayOf(moments.at(i)) == dayOf(moments.at(i + 1));
        }

        void copyFrom(Taps other) {
            moments.copyFrom(other.moments);
            stations.copyFrom(other.stations);
            ways.copyFrom(other.ways);
            size = other.size;
        }
    }

    /** ZONES and prices. */
    private static final class Tariff {
        private static final int FARE = 0, CAP = 1, WEEK = 2, MORE = 3, NEAR = 4;
        private static final int[] FIRST_ZONES = {1, 2, 3, 4, 5, 1, 2, 3};

        private final Row zones = new Row(STATIONS);
        private final Row fares = new Row(WIDEST + 1);
        private final Row caps = new Row(WIDEST + 1);
        private final Row weeks = new Row(WIDEST + 1);
        private int more = 50;
        private int near = 30;

        Tariff() {
            for (int s = 0; s < FIRST_ZONES.length; s++) {
                zones.put(s, FIRST_ZONES[s]);
            }
            for (int w = 1; w <= WIDEST; w++) {
                fares.put(w, 150 + 50 * w);
                caps.put(w, 400 + 100 * w);
                weeks.put(w, 1500 + 400 * w);
            }
        }

        int zoneOf(int station) {
            return zones.at(station);
        }

        void putZone(int station, int n) {
            zones.put(station, n);
        }

        int valueOf(int what, int w) {
            switch (what) {
                case FARE: return fares.at(w);
                case CAP: return caps.at(w);
                case WEEK: return weeks.at(w);
                case MORE: return more;
                default: return near;
            }
        }

        void putValue(int what, int w, int n) {
            switch (what) {
                case FARE: fares.put(w, n); break;
                case CAP: caps.put(w, n); break;
                case WEEK: weeks.put(w, n); break;
                case MORE: more = n; break;
                default: near = n; break;
            }
        }

        int near() {
            return near;
        }

        int journeyCost(int width, boolean busy) {
            return fares.at(width) + (busy ? more : 0);
        }

        /** What a DAY OWES; width 0 means that it has no JOURNEY. */
        int capped(int sum, int width) {
            return width == 0 ? 0 : Math.min(sum, caps.at(width));
        }

        int weekCost(int width) {
            return width == 0 ? 0 : weeks.at(width);
        }

        void copyFrom(Tariff other) {
            zones.copyFrom(other.zones);
            fares.copyFrom(other.fares);
            caps.copyFrom(other.caps);
            weeks.copyFrom(other.weeks);
            more = other.more;
            near = other.near;
        }
    }

    /** THE LIST, and what each READER has of it; sets of CARDS are bits. */
    private static final class BarList {
        private final Row numbersAt = new Row(READERS);
        private final Row barredAt = new Row(READERS);
        private int number = 0;
        private int barred = 0;

        int number() {
            return number;
        }

        int barred() {
            return barred;
        }

        int numberAt(int reader) {
            return numbersAt.at(reader);
        }

        boolean isBarredAt(int reader, int card) {
            return (barredAt.at(reader) >> card & 1) == 1;
        }

        void putBarred(int card, boolean on) {
            int after = on ? barred | 1 << card : barred & ~(1 << card);
            if (after != barred) {
                barred = after;
                number++;
            }
        }

        void bringTo(int reader) {
            numbersAt.put(reader, number);
            barredAt.put(reader, barred);
        }

        int laggards() {
            int lagging = 0;
            for (int reader = 0; reader < READERS; reader++) {
                if (numbersAt.at(reader) < number) {
                    lagging++;
                }
            }
            return lagging;
        }

        void copyFrom(BarList other) {
            numbersAt.copyFrom(other.numbersAt);
            barredAt.copyFrom(other.barredAt);
            number = other.number;
            barred = other.barred;
        }
    }

    /** All that an IMAGE keeps. */
    private static final class State {
        private final Taps card0 = new Taps();
        private final Taps card1 = new Taps();
        private final Taps card2 = new Taps();
        private final Taps card3 = new Taps();
        private final Tariff tariff = new Tariff();
        private final BarList list = new BarList();

        Taps tapsOf(int card) {
            switch (card) {
                case 0: return card0;
                case 1: return card1;
                case 2: return card2;
                default: return card3;
            }
        }

        void copyFrom(State other) {
            card0.copyFrom(other.card0);
            card1.copyFrom(other.card1);
            card2.copyFrom(other.card2);
            card3.copyFrom(other.card3);
            tariff.copyFrom(other.tariff);
            list.copyFrom(other.list);
        }
    }

    /** The RIDES of a CARD, made anew from its TAPS. */
    private static final class Rides {
        private static final int WHOLE = 0, NO_END = 1, NO_BEGINNING = 2;

        private final Row beginStations = new Row(MOST_TAPS);
        private final Row endStations = new Row(MOST_TAPS);
        private final Row beginMoments = new Row(MOST_TAPS);
        private final Row endMoments = new Row(MOST_TAPS);
        private final Row kinds = new Row(MOST_TAPS);
        /** By STATION: where the last WHOLE RIDE from there ended, to there began. */
        private final Row lastEnds = new Row(STATIONS);
        private final Row lastBegins = new Row(STATIONS);
        private int size = 0;

        void build(Taps taps) {
            size = 0;
            lastEnds.fill(NONE);
            lastBegins.fill(NONE);
            for (int i = 0; i < taps.size(); i++) {
                if (taps.isWholeFrom(i)) {
                    addWhole(taps, i);
                } else if (!taps.isWholeFrom(i - 1)) {
                    addLacking(taps, i);
                }
            }
        }

        private void addWhole(Taps taps, int i) {
            int begin = taps.station(i);
            int end = taps.station(i + 1);
            lastEnds.put(begin, end);
            lastBegins.put(end, begin);
            addRide(WHOLE, begin, end, taps.moment(i), taps.moment(i + 1));
        }

        private void addLacking(Taps taps, int i) {
            int station = taps.station(i);
            int moment = taps.moment(i);
            if (taps.way(i) == 0) {
                addRide(NO_END, station, lastEnds.at(station), moment, moment);
            } else {
                addRide(NO_BEGINNING, lastBegins.at(station), station, moment, moment);
            }
        }

        private void addRide(int kind, int begin, int end, int beginMoment, int endMoment) {
            kinds.put(size, kind);
            beginStations.put(size, begin);
            endStations.put(size, end);
            beginMoments.put(size, beginMoment);
            endMoments.put(size, endMoment);
            size++;
        }

        int size() {
            return size;
        }

        int beginStation(int i) {
            return beginStations.at(i);
        }

        int endStation(int i) {
            return endStations.at(i);
        }

        int beginMoment(int i) {
            return beginMoments.at(i);
        }

        int kind(int i) {
            return kinds.at(i);
        }

        boolean isLame(int i) {
            return beginStations.at(i) == NONE || endStations.at(i) == NONE;
        }

        /** Whether the i-th RIDE goes on from the one before, as one JOURNEY asks. */
        boolean goesOn(int i, int near) {
            if (i <= 0 || kinds.at(i) != WHOLE || kinds.at(i - 1) != WHOLE) {
                return false;
            }
            int begin = beginMoments.at(i);
            int end = endMoments.at(i - 1);
            return dayOf(begin) == dayOf(end) && begin - end <= near
                && beginStations.at(i) == endStations.at(i - 1);
        }
    }

    /** The JOURNEYS of a CARD, made anew from its RIDES. */
    private static final class Journeys {
        private static final int MOST_RIDES = 3;

        private final Row moments = new Row(MOST_TAPS);
        private final Row rideCounts = new Row(MOST_TAPS);
        private final Row leastZones = new Row(MOST_TAPS);
        private final Row greatestZones = new Row(MOST_TAPS);
        private final Row costs = new Row(MOST_TAPS);
        private final Row journeysOfRides = new Row(MOST_TAPS);
        private int size = 0;

        void build(Rides rides, Tariff tariff) {
            size = 0;
            for (int i = 0; i < rides.size(); i++) {
                boolean goesOn = size > 0 && rideCounts.at(size - 1) < MOST_RIDES
                    && rides.goesOn(i, tariff.near());
                if (!goesOn) {
                    open(rides.beginMoment(i));
                }
                takeRide(rides, i, tariff);
            }
            for (int j = 0; j < size; j++) {
                costs.put(j, tariff.journeyCost(width(j), isBusy(moments.at(j))));
            }
        }

        private void open(int moment) {
            moments.put(size, moment);
            rideCounts.put(size, 0);
            leastZones.put(size, WIDEST);
            greatestZones.put(size, 1);
            size++;
        }

        private void takeRide(Rides rides, int i, Tariff tariff) {
            int last = size - 1;
            journeysOfRides.put(i, last);
            rideCounts.add(last, 1);
            if (rides.isLame(i)) {
                // A LAME one is as wide as can be, wherever its one TAP was.
                takeZone(last, 1);
                takeZone(last, WIDEST);
            } else {
                takeZone(last, tariff.zoneOf(rides.beginStation(i)));
                takeZone(last, tariff.zoneOf(rides.endStation(i)));
            }
        }

        private void takeZone(int j, int zone) {
            leastZones.put(j, Math.min(leastZones.at(j), zone));
            greatestZones.put(j, Math.max(greatestZones.at(j), zone));
        }

        int size() {
            return size;
        }

        int moment(int j) {
            return moments.at(j);
        }

        int ridesIn(int j) {
            return rideCounts.at(j);
        }

        int width(int j) {
            return greatestZones.at(j) - leastZones.at(j) + 1;
        }

        int cost(int j) {
            return costs.at(j);
        }

        int journeyOfRide(int i) {
            return journeysOfRides.at(i);
        }
    }

    /** What each DAY of a CARD comes to. */
    private static final class Days {
        private final Row sums = new Row(DAYS);
        private final Row widths = new Row(DAYS);
        private final Row owes = new Row(DAYS);

        void build(Journeys journeys, Tariff tariff) {
            sums.fill(0);
            widths.fill(0);
            for (int j = 0; j < journeys.size(); j++) {
                int day = dayOf(journeys.moment(j));
                sums.add(day, journeys.cost(j));
                widths.put(day, Math.max(widths.at(day), journeys.width(j)));
            }
            for (int day = 0; day < DAYS; day++) {
                owes.put(day, tariff.capped(sums.at(day), widths.at(day)));
            }
        }

        int sum(int day) {
            return sums.at(day);
        }

        int width(int day) {
            return widths.at(day);
        }

        int owed(int day) {
            return owes.at(day);
        }

        int allSums() {
            return sums.sum();
        }

        int allOwed() {
            return owes.sum();
        }

        int widthOfWeek(int first) {
            int widest = 0;
            for (int day = first; day < first + WEEK_DAYS; day++) {
                widest = Math.max(widest, widths.at(day));
            }
            return widest;
        }
    }

    /** THE BEST of a CARD, found from the last DAY backwards. */
    private static final class Plan {
        /** By DAY: the least cost from there on, with how few WEEKS, and whether one begins there. */
        private final Row costsFrom = new Row(DAYS + 1);
        private final Row weeksFrom = new Row(DAYS + 1);
        private final Row weekBegins = new Row(DAYS);
        private final Row starts = new Row(MOST_WEEKS);
        private final Row inWeek = new Row(DAYS);

        void build(Days days, Tariff tariff) {
            costsFrom.put(DAYS, 0);
            weeksFrom.put(DAYS, 0);
            for (int day = DAYS - 1; day >= 0; day--) {
                costsFrom.put(day, days.owed(day) + costsFrom.at(day + 1));
                weeksFrom.put(day, weeksFrom.at(day + 1));
                weekBegins.put(day, 0);
                if (day + WEEK_DAYS <= DAYS) {
                    weighWeek(day, tariff.weekCost(days.widthOfWeek(day)));
                }
            }
            markWeeks();
        }

        private void weighWeek(int day, int weekCost) {
            int cost = weekCost + costsFrom.at(day + WEEK_DAYS);
            int weeks = 1 + weeksFrom.at(day + WEEK_DAYS);
            boolean cheaper = cost < costsFrom.at(day);
            // Of as little cost and as few WEEKS, the one that begins here begins earliest.
            boolean alike = cost == costsFrom.at(day) && weeks <= weeksFrom.at(day);
            if (cheaper || alike) {
                costsFrom.put(day, cost);
                weeksFrom.put(day, weeks);
                weekBegins.put(day, 1);
            }
        }

        private void markWeeks() {
            int marked = 0;
            int behindWeek = 0;
            for (int day = 0; day < DAYS; day++) {
                if (day >= behindWeek && weekBegins.at(day) == 1) {
                    starts.put(marked, day);
                    marked++;
                    behindWeek = day + WEEK_DAYS;
                }
                inWeek.put(day, day < behindWeek ? 1 : 0);
            }
        }

        int cost() {
            return costsFrom.at(0);
        }

        int weeks() {
            return weeksFrom.at(0);
        }

        int start(int k) {
            return starts.at(k);
        }

        boolean isInWeek(int day) {
            return inWeek.at(day) == 1;
        }
    }

    /** All that follows from the TAPS of one CARD; its rows serve every call anew. */
    private static final class Bill {
        private final Rides rides = new Rides();
        private final Journeys journeys = new Journeys();
        private final Days days = new Days();
        private final Plan plan = new Plan();

        void reckon(Taps taps, Tariff tariff) {
            rides.build(taps);
            journeys.build(rides, tariff);
            days.build(journeys, tariff);
            plan.build(days, tariff);
        }
    }
}
