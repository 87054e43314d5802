/**
 * A desk of hired planes: wished flights are joined to chains with least empty legs, under a law of
 * duties and rests and around storms; empty legs are offered and taken, and flights are billed.
 */
public final class EmptyLegs {
    public static final int NONE = -1;

    private static final int DAY_MINUTES = 1440;
    private static final int DAYS = 7;
    private static final int WEEK = DAYS * DAY_MINUTES;
    private static final int FIELDS = 8;
    private static final int WAY_LEAST = 10;
    private static final int WAY_MOST = 600;
    private static final int SEATS_MOST = 30;
    private static final int TURN_MOST = 180;
    private static final int RATE_MOST = 1000;
    private static final int PRICE_MOST = 1000000;
    private static final int CLIENTS = 100;

    private final Tape tape;
    private final Law texts;
    private final Ways ways;
    private final Planes planes;
    private final Flights flights;
    private final Storms storms;
    private final Roster roster;
    private final Planner planner;
    private final Offers offers;
    private int now;

    public EmptyLegs() {
        tape = new Tape();
        texts = new Law();
        ways = new Ways();
        planes = new Planes();
        flights = new Flights();
        storms = new Storms();
        roster = new Roster(planes, flights, ways);
        planner = new Planner(planes, flights, roster, new Chain(planes, flights, ways, storms, texts));
        offers = new Offers();
        now = 0;
    }

    public int feed(int a, int b, int c, int d, int e) {
        if (!tape.hasRoom()) {
            return NONE;
        }
        tape.write(a);
        tape.write(b);
        tape.write(c);
        tape.write(d);
        tape.write(e);
        return tape.length();
    }

    public int law(int day, int n) {
        if (!isDay(day) || n < 0 || n > tape.length()) {
            return NONE;
        }
        int fault = texts.read(tape, n);
        tape.wipe();
        if (fault == 0) {
            texts.enact(day);
        }
        return fault;
    }

    public int rule(int day, int what) {
        if (what == 0) {
            return texts.dutyOn(day);
        }
        return what == 1 ? texts.restOn(day) : NONE;
    }

    public boolean way(int a, int b, int minutes) {
        if (!isField(a) || !isField(b) || a == b) {
            return false;
        }
        if (minutes == 0) {
            if (flights.anyBetween(a, b)) {
                return false;
            }
        } else if (!isWithin(minutes, WAY_LEAST, WAY_MOST)) {
            return false;
        }
        ways.put(a, b, minutes);
        return true;
    }

    public int plane(int home, int seats, int turn, int rate) {
        if (!isField(home) || !isWithin(seats, 1, SEATS_MOST)) {
            return NONE;
        }
        if (!isWithin(turn, 0, TURN_MOST) || !isWithin(rate, 1, RATE_MOST)) {
            return NONE;
        }
        return planes.add(home, seats, turn, rate);
    }

    public int flight(int from, int to, int start, int seats) {
        if (ways.minutes(from, to) == 0 || !isMinute(start) || !isWithin(seats, 1, SEATS_MOST)) {
            return NONE;
        }
        return flights.add(from, to, start, seats);
    }

    public boolean cancel(int f) {
        if (!flights.isLive(f)) {
            return false;
        }
        flights.strike(f);
        roster.assign(f, NONE);
        offers.breakLost(roster);
        return true;
    }

    public int storm(int field, int from, int to) {
        if (!isField(field) || !isMinute(from) || !isWithin(to, from + 1, WEEK)) {
            return NONE;
        }
        return storms.add(field, from, to);
    }

    public boolean clock(int minute) {
        if (!isMinute(minute) || minute < now) {
            return false;
        }
        now = minute;
        offers.lapseBehind(now);
        return true;
    }

    public int plan() {
        planner.settle(false);
        offers.breakLost(roster);
        return roster.flown();
    }

    public int replan() {
        int moved = planner.settle(true);
        offers.breakLost(roster);
        return moved;
    }

    public int fits() {
        return planner.holds() ? 1 : 0;
    }

    public int on(int f) {
        return roster.planeOf(f);
    }

    public int move(int p, int i, int what) {
        int f = roster.flightAt(p, i);
        if (f != NONE) {
            return flownMove(f, what);
        }
        int ahead = roster.legAt(p, i);
        return ahead == NONE ? NONE : emptyMove(ahead, what);
    }

    public int offer(int p, int i, int price, int till) {
        int f = roster.legAt(p, i);
        if (f == NONE || !isWithin(price, 0, PRICE_MOST)) {
            return NONE;
        }
        if (!isMinute(till) || till < now || offers.isHeld(f)) {
            return NONE;
        }
        return offers.add(roster.placeAhead(f), p, f, price, till);
    }

    public boolean take(int o, int client) {
        if (!isWithin(client, 0, CLIENTS - 1) || offers.stateOf(o) != Offers.OPEN) {
            return false;
        }
        offers.sell(o, client);
        return true;
    }

    public int told(int o, int what) {
        switch (what) {
            case 0: return offers.stateOf(o);
            case 1: return offers.priceOf(o);
            case 2: return offers.tillOf(o);
            case 3: return offers.clientOf(o);
            case 4: return offers.planeOf(o);
            case 5: return offers.flightOf(o);
            default: return NONE;
        }
    }

    public long bill(int f) {
        int p = roster.planeOf(f);
        if (p == NONE) {
            return NONE;
        }
        int minutes = roster.minutesOf(f);
        if (roster.hasLeg(f)) {
            int leg = roster.legMinutes(f);
            if (leg == 0) {
                return NONE;
            }
            minutes += leg;
        }
        long full = (long) planes.rateOf(p) * minutes;
        return Math.max(0L, full - offers.takenPrice(f) / 2);
    }

    public int look(int f, int what) {
        if (!flights.has(f)) {
            return NONE;
        }
        switch (what) {
            case 0: return flights.fromOf(f);
            case 1: return flights.toOf(f);
            case 2: return flights.startOf(f);
            case 3: return flights.seatsOf(f);
            case 4: return flights.isLive(f) ? 0 : 1;
            case 5: return roster.minutesOf(f);
            default: return NONE;
        }
    }

    public int count(int what) {
        switch (what) {
            case 0: return planes.size();
            case 1: return flights.size();
            case 2: return flights.live();
            case 3: return roster.flown();
            case 4: return roster.emptyMinutes();
            case 5: return storms.size();
            case 6: return offers.size();
            case 7: return now;
            case 8: return tape.length();
            default: return NONE;
        }
    }

    private int flownMove(int f, int what) {
        switch (what) {
            case 0: return f;
            case 1: return flights.fromOf(f);
            case 2: return flights.toOf(f);
            case 3: return flights.startOf(f);
            case 4: return flights.startOf(f) + roster.minutesOf(f);
            default: return NONE;
        }
    }

    /** The empty leg ahead of a flight; its times are told only while its way is there. */
    private int emptyMove(int ahead, int what) {
        if (what == 1) {
            return roster.placeAhead(ahead);
        }
        if (what == 2) {
            return flights.fromOf(ahead);
        }
        int minutes = roster.legMinutes(ahead);
        if (minutes == 0 || (what != 3 && what != 4)) {
            return NONE;
        }
        int end = flights.startOf(ahead) - planes.turnOf(roster.planeOf(ahead));
        return what == 4 ? end : end - minutes;
    }

    private static boolean isWithin(int value, int least, int most) {
        return value >= least && value <= most;
    }

    private static boolean isField(int field) {
        return field >= 0 && field < FIELDS;
    }

    private static boolean isDay(int day) {
        return day >= 0 && day < DAYS;
    }

    private static boolean isMinute(int minute) {
        return minute >= 0 && minute < WEEK;
    }

    /** Bytes that wait to be read as a text. */
    private static final class Tape {
        private static final int ROOM = 40;
        private static final int FED = 20;
        private static final int END = -1;

        private final int[] bytes = new int[ROOM];
        private int length;

        int length() {
            return length;
        }

        boolean hasRoom() {
            return length + FED <= ROOM;
        }

        void write(int four) {
            for (int shift = 24; shift >= 0; shift -= 8) {
                if (length < ROOM) {
                    bytes[length] = (four >>> shift) & 255;
                    length++;
                }
            }
        }

        /** The byte at a place of the text of n bytes, or END. */
        int at(int place, int n) {
            return place >= 0 && place < n && place < length ? bytes[place] : END;
        }

        void wipe() {
            length = 0;
        }
    }

    /** The texts of the law, one a day at most, and what is in force on each day by them. */
    private static final class Law {
        private static final int FIRST_DUTY = 840;
        private static final int FIRST_REST = 600;
        private static final int DUTY_LEAST = 60;
        private static final int NUMBER_MOST = 9999;
        private static final int DIGITS_MOST = 4;

        private final int[] toldDuty = new int[DAYS];
        private final int[] toldRest = new int[DAYS];
        private final int[] duty = new int[DAYS];
        private final int[] rest = new int[DAYS];
        private int readDuty;
        private int readRest;
        private int place;

        Law() {
            for (int day = 0; day < DAYS; day++) {
                toldDuty[day] = NONE;
                toldRest[day] = NONE;
                duty[day] = FIRST_DUTY;
                rest[day] = FIRST_REST;
            }
        }

        int dutyOn(int day) {
            return day >= 0 && day < DAYS ? duty[day] : NONE;
        }

        int restOn(int day) {
            return day >= 0 && day < DAYS ? rest[day] : NONE;
        }

        /** Reads the first n bytes as a text, to be enacted: 0, or its fault. */
        int read(Tape tape, int n) {
            readDuty = NONE;
            readRest = NONE;
            place = 0;
            for (int clause = 0; clause <= n; clause++) {
                int fault = readClause(tape, n);
                if (fault != 0) {
                    return fault;
                }
                int behind = tape.at(place, n);
                if (behind == Tape.END) {
                    return 0;
                }
                if (behind != ';') {
                    return 400 + place;
                }
                place++;
            }
            return 0;
        }

        private int readClause(Tape tape, int n) {
            int letter = tape.at(place, n);
            if (letter != 'd' && letter != 'r') {
                return 100 + place;
            }
            place++;
            int first = place;
            int number = readNumber(tape, n);
            if (place == first) {
                return 200 + place;
            }
            int least = letter == 'd' ? DUTY_LEAST : 0;
            if (place - first > DIGITS_MOST || !isWithin(number, least, NUMBER_MOST)) {
                return 300 + first;
            }
            if (letter == 'd') {
                readDuty = number;
            } else {
                readRest = number;
            }
            return 0;
        }

        /** Goes behind the digits, at most one more than a number may have. */
        private int readNumber(Tape tape, int n) {
            int number = 0;
            for (int digits = 0; digits <= DIGITS_MOST; digits++) {
                int sign = tape.at(place, n);
                if (sign < '0' || sign > '9') {
                    return number;
                }
                number = number * 10 + (sign - '0');
                place++;
            }
            return number;
        }

        /** The text that was read last is in force from a day on. */
        void enact(int day) {
            if (!isDay(day)) {
                return;
            }
            toldDuty[day] = readDuty;
            toldRest[day] = readRest;
            int nowDuty = FIRST_DUTY;
            int nowRest = FIRST_REST;
            for (int d = 0; d < DAYS; d++) {
                nowDuty = toldDuty[d] == NONE ? nowDuty : toldDuty[d];
                nowRest = toldRest[d] == NONE ? nowRest : toldRest[d];
                duty[d] = nowDuty;
                rest[d] = nowRest;
            }
        }
    }

    /** The minutes between fields, 0 where there is no way. */
    private static final class Ways {
        private final int[] minutes = new int[FIELDS * FIELDS];

        int minutes(int a, int b) {
            return isField(a) && isField(b) ? minutes[a * FIELDS + b] : 0;
        }

        void put(int a, int b, int taken) {
            if (isField(a) && isField(b)) {
                minutes[a * FIELDS + b] = taken;
                minutes[b * FIELDS + a] = taken;
            }
        }
    }

    private static final class Planes {
        private static final int MOST = 4;

        private final int[] home = new int[MOST];
        private final int[] seats = new int[MOST];
        private final int[] turn = new int[MOST];
        private final int[] rate = new int[MOST];
        private int size;

        int add(int itsHome, int itsSeats, int itsTurn, int itsRate) {
            if (size >= MOST) {
                return NONE;
            }
            home[size] = itsHome;
            seats[size] = itsSeats;
            turn[size] = itsTurn;
            rate[size] = itsRate;
            size++;
            return size - 1;
        }

        int size() {
            return size;
        }

        boolean has(int p) {
            return p >= 0 && p < size;
        }

        int homeOf(int p) {
            return has(p) ? home[p] : NONE;
        }

        int seatsOf(int p) {
            return has(p) ? seats[p] : NONE;
        }

        int turnOf(int p) {
            return has(p) ? turn[p] : NONE;
        }

        int rateOf(int p) {
            return has(p) ? rate[p] : NONE;
        }
    }

    /** The wished flights, by number and in order of start. */
    private static final class Flights {
        private static final int MOST = 20;
        private static final int LIVE_MOST = 8;

        private final int[] from = new int[MOST];
        private final int[] to = new int[MOST];
        private final int[] start = new int[MOST];
        private final int[] seats = new int[MOST];
        private final boolean[] struck = new boolean[MOST];
        private final int[] order = new int[MOST];
        private int size;
        private int live;

        int add(int itsFrom, int itsTo, int itsStart, int itsSeats) {
            if (size >= MOST || live >= LIVE_MOST) {
                return NONE;
            }
            from[size] = itsFrom;
            to[size] = itsTo;
            start[size] = itsStart;
            seats[size] = itsSeats;
            struck[size] = false;
            lineUp(size, itsStart);
            size++;
            live++;
            return size - 1;
        }

        /** A new flight has the highest number, so it goes behind all of its start. */
        private void lineUp(int f, int itsStart) {
            int n = f;
            for (int ahead = f - 1; ahead >= 0; ahead--) {
                if (startOf(order[ahead]) <= itsStart) {
                    break;
                }
                order[ahead + 1] = order[ahead];
                n = ahead;
            }
            order[n] = f;
        }

        void strike(int f) {
            if (isLive(f)) {
                struck[f] = true;
                live--;
            }
        }

        int size() {
            return size;
        }

        int live() {
            return live;
        }

        boolean has(int f) {
            return f >= 0 && f < size;
        }

        boolean isLive(int f) {
            return has(f) && !struck[f];
        }

        /** The n-th flight by start, cancelled ones too. */
        int inOrder(int n) {
            return n >= 0 && n < size ? order[n] : NONE;
        }

        int fromOf(int f) {
            return has(f) ? from[f] : NONE;
        }

        int toOf(int f) {
            return has(f) ? to[f] : NONE;
        }

        int startOf(int f) {
            return has(f) ? start[f] : NONE;
        }

        int seatsOf(int f) {
            return has(f) ? seats[f] : NONE;
        }

        boolean anyBetween(int a, int b) {
            for (int f = 0; f < size; f++) {
                boolean there = from[f] == a && to[f] == b;
                boolean back = from[f] == b && to[f] == a;
                if (!struck[f] && (there || back)) {
                    return true;
                }
            }
            return false;
        }
    }

    private static final class Storms {
        private static final int MOST = 20;

        private final int[] field = new int[MOST];
        private final int[] from = new int[MOST];
        private final int[] to = new int[MOST];
        private int size;

        int add(int itsField, int itsFrom, int itsTo) {
            if (size >= MOST) {
                return NONE;
            }
            field[size] = itsField;
            from[size] = itsFrom;
            to[size] = itsTo;
            size++;
            return size - 1;
        }

        int size() {
            return size;
        }

        boolean shuts(int itsField, int minute) {
            for (int s = 0; s < size; s++) {
                if (field[s] == itsField && minute >= from[s] && minute < to[s]) {
                    return true;
                }
            }
            return false;
        }
    }

    /** The plan at hand: the plane of each flight, and the moves that follow from it. */
    private static final class Roster {
        private static final int MOVES_MOST = 2 * Flights.LIVE_MOST;

        private final Planes planes;
        private final Flights flights;
        private final Ways ways;
        private final int[] plane = new int[Flights.MOST];

        Roster(Planes planes, Flights flights, Ways ways) {
            this.planes = planes;
            this.flights = flights;
            this.ways = ways;
            for (int f = 0; f < Flights.MOST; f++) {
                plane[f] = NONE;
            }
        }

        void assign(int f, int p) {
            if (flights.has(f)) {
                plane[f] = p;
            }
        }

        int planeOf(int f) {
            return flights.has(f) ? plane[f] : NONE;
        }

        int flown() {
            int flown = 0;
            for (int f = 0; f < flights.size(); f++) {
                flown += planeOf(f) == NONE ? 0 : 1;
            }
            return flown;
        }

        int emptyMinutes() {
            int minutes = 0;
            for (int f = 0; f < flights.size(); f++) {
                minutes += legMinutes(f);
            }
            return minutes;
        }

        int minutesOf(int f) {
            return ways.minutes(flights.fromOf(f), flights.toOf(f));
        }

        /** Where the plane of a flight is ahead of it and of its leg; NONE if it is unflown. */
        int placeAhead(int f) {
            int p = planeOf(f);
            int place = planes.homeOf(p);
            for (int n = 0; n < flights.size(); n++) {
                int g = flights.inOrder(n);
                if (g == f) {
                    break;
                }
                if (planeOf(g) == p) {
                    place = flights.toOf(g);
                }
            }
            return p == NONE ? NONE : place;
        }

        boolean hasLeg(int f) {
            return planeOf(f) != NONE && placeAhead(f) != flights.fromOf(f);
        }

        /** The minutes of the leg ahead of a flight: 0 without a leg, or without a way for it. */
        int legMinutes(int f) {
            return hasLeg(f) ? ways.minutes(placeAhead(f), flights.fromOf(f)) : 0;
        }

        /** The flight that is move i of a plane, NONE if that is an empty leg or none. */
        int flightAt(int p, int i) {
            int next = 0;
            for (int n = 0; n < flights.size(); n++) {
                int f = flights.inOrder(n);
                if (planes.has(p) && planeOf(f) == p) {
                    next += hasLeg(f) ? 1 : 0;
                    if (next == i) {
                        return f;
                    }
                    next++;
                }
            }
            return NONE;
        }

        /** The flight whose empty leg is move i of a plane, or NONE. */
        int legAt(int p, int i) {
            int f = isWithin(i, 0, MOVES_MOST - 1) ? flightAt(p, i + 1) : NONE;
            return hasLeg(f) ? f : NONE;
        }
    }

    /** One plane's moves, followed flight by flight as far as they fit. */
    private static final class Chain {
        private final Planes planes;
        private final Flights flights;
        private final Ways ways;
        private final Storms storms;
        private final Law law;
        private int seats;
        private int turn;
        private int place;
        private int ended;
        private int dutyBegan;

        Chain(Planes planes, Flights flights, Ways ways, Storms storms, Law law) {
            this.planes = planes;
            this.flights = flights;
            this.ways = ways;
            this.storms = storms;
            this.law = law;
        }

        /** No move of a plane yet: then no duty has begun. */
        void begin(int p) {
            seats = planes.seatsOf(p);
            turn = planes.turnOf(p);
            resume(planes.homeOf(p), 0, NONE);
        }

        /** Goes on with the same plane where an earlier chain of it stood. */
        void resume(int itsPlace, int itsEnded, int itsDutyBegan) {
            place = itsPlace;
            ended = itsEnded;
            dutyBegan = itsDutyBegan;
        }

        int place() {
            return place;
        }

        int ended() {
            return ended;
        }

        int dutyBegan() {
            return dutyBegan;
        }

        /** Adds a flight behind the others: the minutes of its empty leg; NONE if it doesn't fit. */
        int join(int f) {
            if (seats < flights.seatsOf(f)) {
                return NONE;
            }
            int from = flights.fromOf(f);
            int start = flights.startOf(f);
            int leg = 0;
            if (place != from) {
                leg = ways.minutes(place, from);
                int arrival = start - turn;
                if (leg == 0 || !goes(from, arrival - leg, arrival)) {
                    return NONE;
                }
            }
            int to = flights.toOf(f);
            return goes(to, start, start + ways.minutes(from, to)) ? leg : NONE;
        }

        private boolean goes(int to, int begin, int end) {
            boolean first = dutyBegan == NONE;
            if (!isMinute(begin) || !isMinute(end)) {
                return false;
            }
            if (!first && begin < ended + turn) {
                return false;
            }
            if (storms.shuts(place, begin) || storms.shuts(to, end)) {
                return false;
            }
            if (first || begin - ended >= law.restOn(dutyBegan / DAY_MINUTES)) {
                dutyBegan = begin;
            }
            place = to;
            ended = end;
            return end - dutyBegan <= law.dutyOn(dutyBegan / DAY_MINUTES);
        }
    }

    /**
     * Finds the plan that is asked for. What plans are compared by is added up in one number, from
     * the weightiest down: flights unflown, flights moved, empty minutes, the row of planes. All of
     * these are sums over the planes, so the least number is found plane by plane over sets of flights.
     */
    private static final class Planner {
        private static final int SETS = 1 << Flights.LIVE_MOST;
        private static final int UNFLOWN = 9;
        private static final int DIGIT = 10;
        private static final long EMPTY_WEIGHT = 100000000L;
        private static final long MOVED_WEIGHT = EMPTY_WEIGHT * 10000L;
        private static final long UNFLOWN_WEIGHT = MOVED_WEIGHT * 100L;
        private static final long UNFIT = UNFLOWN_WEIGHT * 100L;

        private final Planes planes;
        private final Flights flights;
        private final Roster roster;
        private final Chain chain;
        private final int[] lined = new int[Flights.LIVE_MOST];
        private final long[] digit = new long[Flights.LIVE_MOST];
        private final long[] cost = new long[SETS];
        private final long[] least = new long[SETS];
        private final int[] place = new int[SETS];
        private final int[] ended = new int[SETS];
        private final int[] dutyBegan = new int[SETS];
        private int many;
        private long movedWeight;

        Planner(Planes planes, Flights flights, Roster roster, Chain chain) {
            this.planes = planes;
            this.flights = flights;
            this.roster = roster;
            this.chain = chain;
        }

        /** Puts the best plan, or the least changed one, in the roster: how many flights it moves. */
        int settle(boolean leastChanged) {
            movedWeight = leastChanged ? MOVED_WEIGHT : 0L;
            lineUp();
            for (int p = 0; p < planes.size(); p++) {
                weighChains(p);
                addWeighed();
            }
            weighUnflown();
            long total = leastOf((1 << many) - 1);
            enter(total % EMPTY_WEIGHT);
            return (int) (total % UNFLOWN_WEIGHT / MOVED_WEIGHT);
        }

        boolean holds() {
            for (int p = 0; p < planes.size(); p++) {
                chain.begin(p);
                for (int n = 0; n < flights.size(); n++) {
                    int f = flights.inOrder(n);
                    if (roster.planeOf(f) == p && chain.join(f) == NONE) {
                        return false;
                    }
                }
            }
            return true;
        }

        /** Takes the flights that are not cancelled in order; so far none is given to a plane. */
        private void lineUp() {
            many = 0;
            for (int n = 0; n < flights.size(); n++) {
                int f = flights.inOrder(n);
                if (flights.isLive(f) && many < Flights.LIVE_MOST) {
                    lined[many] = f;
                    many++;
                }
            }
            long weight = 1L;
            for (int at = many - 1; at >= 0; at--) {
                digit[at] = weight;
                weight *= DIGIT;
            }
            least[0] = 0L;
            for (int set = 1; set < SETS; set++) {
                least[set] = UNFIT;
            }
        }

        /** From the greatest set down, as each looks at what smaller ones cost without this plane. */
        private void addWeighed() {
            for (int set = (1 << many) - 1; set >= 0; set--) {
                least[set] = leastOf(set);
            }
        }

        /** The least that a set costs, some of it by the costs at hand and the rest as before. */
        private long leastOf(int set) {
            long found = UNFIT;
            int part = set;
            for (int n = 0; n <= set; n++) {
                if (cost[part] < UNFIT) {
                    found = Math.min(found, cost[part] + least[set ^ part]);
                }
                if (part == 0) {
                    break;
                }
                part = (part - 1) & set;
            }
            return found;
        }

        private void weighChains(int p) {
            chain.begin(p);
            keep(0, 0L);
            for (int at = 0; at < many; at++) {
                int bit = 1 << at;
                long own = ownCost(at, p);
                for (int ahead = 0; ahead < bit; ahead++) {
                    keep(ahead + bit, costBehind(ahead, at, own));
                }
            }
        }

        /** What a chain costs that takes one more flight behind the others; it stands in chain then. */
        private long costBehind(int ahead, int at, long own) {
            if (cost[ahead] >= UNFIT) {
                return UNFIT;
            }
            chain.resume(place[ahead], ended[ahead], dutyBegan[ahead]);
            int leg = chain.join(lined[at]);
            return leg == NONE ? UNFIT : cost[ahead] + own + leg * EMPTY_WEIGHT;
        }

        private void keep(int set, long itsCost) {
            cost[set] = itsCost;
            place[set] = chain.place();
            ended[set] = chain.ended();
            dutyBegan[set] = chain.dutyBegan();
        }

        private void weighUnflown() {
            cost[0] = 0L;
            for (int at = 0; at < many; at++) {
                int bit = 1 << at;
                long own = UNFLOWN_WEIGHT + ownCost(at, UNFLOWN);
                for (int ahead = 0; ahead < bit; ahead++) {
                    cost[ahead + bit] = cost[ahead] + own;
                }
            }
        }

        /** A flight's part of the row and whether it is moved. */
        private long ownCost(int at, int p) {
            int before = roster.planeOf(lined[at]);
            long moved = before != NONE && before != p ? movedWeight : 0L;
            return moved + p * digit[at];
        }

        private void enter(long row) {
            long rest = row;
            for (int at = many - 1; at >= 0; at--) {
                int p = (int) (rest % DIGIT);
                rest /= DIGIT;
                roster.assign(lined[at], p == UNFLOWN ? NONE : p);
            }
        }
    }

    /** The offers of empty legs, all that ever were. */
    private static final class Offers {
        private static final int MOST = 40;
        private static final int OPEN = 0;
        private static final int TAKEN = 1;
        private static final int LAPSED = 2;
        private static final int BROKEN = 3;

        private final int[] state = new int[MOST];
        private final int[] place = new int[MOST];
        private final int[] plane = new int[MOST];
        private final int[] flight = new int[MOST];
        private final int[] price = new int[MOST];
        private final int[] till = new int[MOST];
        private final int[] client = new int[MOST];
        private int size;

        int add(int itsPlace, int itsPlane, int itsFlight, int itsPrice, int itsTill) {
            if (size >= MOST) {
                return NONE;
            }
            state[size] = OPEN;
            place[size] = itsPlace;
            plane[size] = itsPlane;
            flight[size] = itsFlight;
            price[size] = itsPrice;
            till[size] = itsTill;
            client[size] = NONE;
            size++;
            return size - 1;
        }

        void sell(int o, int itsClient) {
            if (has(o)) {
                state[o] = TAKEN;
                client[o] = itsClient;
            }
        }

        void lapseBehind(int now) {
            for (int o = 0; o < size; o++) {
                if (state[o] == OPEN && now > till[o]) {
                    state[o] = LAPSED;
                }
            }
        }

        /** Breaks the offers whose leg the plan at hand has no more. */
        void breakLost(Roster roster) {
            for (int o = 0; o < size; o++) {
                int f = flight[o];
                boolean kept = roster.planeOf(f) == plane[o]
                        && roster.hasLeg(f)
                        && roster.placeAhead(f) == place[o];
                if (isStanding(o) && !kept) {
                    state[o] = BROKEN;
                }
            }
        }

        private boolean isStanding(int o) {
            return stateOf(o) == OPEN || stateOf(o) == TAKEN;
        }

        /** Whether the leg ahead of a flight has an offer; one that stands is always of the leg at hand. */
        boolean isHeld(int f) {
            for (int o = 0; o < size; o++) {
                if (flight[o] == f && isStanding(o)) {
                    return true;
                }
            }
            return false;
        }

        /** The price that was taken for the leg ahead of a flight, or 0. */
        int takenPrice(int f) {
            for (int o = 0; o < size; o++) {
                if (flight[o] == f && state[o] == TAKEN) {
                    return price[o];
                }
            }
            return 0;
        }

        int size() {
            return size;
        }

        private boolean has(int o) {
            return o >= 0 && o < size;
        }

        int stateOf(int o) {
            return has(o) ? state[o] : NONE;
        }

        int priceOf(int o) {
            return has(o) ? price[o] : NONE;
        }

        int tillOf(int o) {
            return has(o) ? till[o] : NONE;
        }

        int clientOf(int o) {
            return has(o) ? client[o] : NONE;
        }

        int planeOf(int o) {
            return has(o) ? plane[o] : NONE;
        }

        int flightOf(int o) {
            return has(o) ? flight[o] : NONE;
        }
    }
}
