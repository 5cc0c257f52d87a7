import java.util.Arrays;

/** All out, as soon as can be: people in rooms, passages between them, and by when all can be safe. */
public final class ExitFlows {
    public static final int UNKNOWN = -1, OUTSIDE = -2, STATE = -3, FULL = -4, NONE = -6, FAULT = -7;

    private static final int ROOMS = 6;
    private static final int MOST_PEOPLE = 30;
    private static final int FIRST_AREA = 10;
    private static final int MOST_AREA = 99;
    private static final int PASSAGES = 10;
    private static final int MOST_WIDTH = 6;
    private static final int MOST_LENGTH = 4;
    private static final int PAD_SIGNS = 40;
    private static final int SIGNS_A_PASSAGE = 4;
    private static final int LAST_TICK = 60;
    private static final int LAST_RUSH_TICK = 200;
    private static final int IMAGES = 2;
    /** Later than any tick that is ever looked at, so that "shut at or before" needs no case of its own. */
    private static final int NEVER = 1000;

    private final Plan plan = new Plan();
    private final Plan firstImage = new Plan();
    private final Plan secondImage = new Plan();
    private int imagesKept = 0;
    private final Pad pad = new Pad();
    private final Flow flow = new Flow();
    private final Flow trial = new Flow();
    private final Stampede stampede = new Stampede();

    public ExitFlows() {
    }

    // ---- 1 rooms, passages

    public int room(int room, int people, int area) {
        if (!isRoom(room)) {
            return UNKNOWN;
        }
        if (!isWithin(people, 0, MOST_PEOPLE) || !isWithin(area, 1, MOST_AREA)) {
            return OUTSIDE;
        }
        int before = plan.people[room];
        plan.people[room] = people;
        plan.area[room] = area;
        return before;
    }

    public int safe(int room, int is) {
        if (!isRoom(room)) {
            return UNKNOWN;
        }
        if (!isWithin(is, 0, 1)) {
            return OUTSIDE;
        }
        int bit = 1 << room;
        plan.safeRooms = is == 1 ? plan.safeRooms | bit : plan.safeRooms & ~bit;
        return Integer.bitCount(plan.safeRooms);
    }

    public int passage(int from, int to, int width, int length) {
        if (!isRoom(from) || !isRoom(to)) {
            return UNKNOWN;
        }
        if (from == to || !isWithin(width, 1, MOST_WIDTH) || !isWithin(length, 1, MOST_LENGTH)) {
            return OUTSIDE;
        }
        if (plan.passages >= PASSAGES) {
            return FULL;
        }
        plan.addPassage(from, to, width, length);
        return plan.passages - 1;
    }

    public int widen(int passage, int width) {
        if (!isPassage(passage)) {
            return UNKNOWN;
        }
        if (!isWithin(width, 1, MOST_WIDTH)) {
            return OUTSIDE;
        }
        int before = plan.width[passage];
        plan.width[passage] = width;
        return before;
    }

    public int shut(int passage, int tick) {
        if (!isPassage(passage)) {
            return UNKNOWN;
        }
        if (!isWithin(tick, -1, LAST_TICK)) {
            return OUTSIDE;
        }
        int before = plan.shutTickOrNone(passage);
        plan.shut[passage] = tick < 0 ? NEVER : tick;
        return before;
    }

    public int say(int sign) {
        if (!isWithin(sign, 33, 126)) {
            return OUTSIDE;
        }
        if (pad.size >= PAD_SIGNS) {
            return FULL;
        }
        pad.add(sign);
        return pad.size;
    }

    public int wipe() {
        int before = pad.size;
        pad.size = 0;
        return before;
    }

    public int fault() {
        return pad.faultPlace();
    }

    public int read() {
        if (pad.faultPlace() != NONE) {
            return FAULT;
        }
        if (plan.passages + pad.size / SIGNS_A_PASSAGE > PASSAGES) {
            return FULL;
        }
        pad.moveInto(plan);
        return plan.passages;
    }

    public int told(int room, int what) {
        if (!isRoom(room)) {
            return UNKNOWN;
        }
        switch (what) {
            case 0:
                return plan.people[room];
            case 1:
                return plan.area[room];
            case 2:
                return isIn(plan.safeRooms, room) ? 1 : 0;
            case 3:
                return bitsOf(plan.crowd(room));
            case 4:
                return bitsOf(plan.pace(room));
            default:
                return OUTSIDE;
        }
    }

    public int of(int passage, int what) {
        if (!isPassage(passage)) {
            return UNKNOWN;
        }
        switch (what) {
            case 0:
                return plan.from[passage];
            case 1:
                return plan.to[passage];
            case 2:
                return plan.width[passage];
            case 3:
                return plan.length[passage];
            case 4:
                return plan.shutTickOrNone(passage);
            default:
                return OUTSIDE;
        }
    }

    // ---- 2 out

    public int out(int tick) {
        if (!isWithin(tick, 0, LAST_TICK)) {
            return OUTSIDE;
        }
        flow.begin(plan);
        return flow.leadBy(tick);
    }

    public int last() {
        return leadAll();
    }

    public int helps() {
        int last = leadAll();
        if (last == 0) {
            return 0;
        }
        int goal = LAST_TICK;
        if (last != NONE) {
            goal = last - 1;
            flow.begin(plan);
            flow.leadBy(goal);
        }
        int set = 0;
        for (int passage = 0; passage < plan.passages; passage++) {
            trial.copy(flow);
            trial.setWidth(passage, plan.width[passage] + 1);
            if (trial.leadsAllBy(goal)) {
                set |= 1 << passage;
            }
        }
        return set;
    }

    public int needed() {
        int last = leadAll();
        if (last == NONE) {
            return NONE;
        }
        int set = 0;
        for (int passage = 0; passage < plan.passages; passage++) {
            // A passage that the flow found does without is not needed: the flow shows it.
            if (flow.lastUse(passage) >= 0 && !canDoShut(passage, 0, last)) {
                set |= 1 << passage;
            }
        }
        return set;
    }

    public int door(int passage) {
        if (!isPassage(passage)) {
            return UNKNOWN;
        }
        int last = leadAll();
        if (last == NONE) {
            return NONE;
        }
        // Shut later, a passage never makes LAST more: so halving finds the least tick.
        int least = 0;
        int enough = flow.lastUse(passage) + 1;
        for (int halving = 0; halving <= LAST_TICK && least < enough; halving++) {
            int middle = (least + enough) / 2;
            if (canDoShut(passage, middle, last)) {
                enough = middle;
            } else {
                least = middle + 1;
            }
        }
        return least;
    }

    // ---- 3 rush

    public int rush(int tick) {
        if (!isWithin(tick, 0, LAST_RUSH_TICK)) {
            return OUTSIDE;
        }
        stampede.begin(plan);
        for (int now = 0; now < tick; now++) {
            stampede.arrive(now);
            stampede.leave(plan, now);
        }
        stampede.arrive(tick);
        return stampede.peopleIn(plan.safeRooms);
    }

    public int rushed() {
        int all = plan.allPeople();
        stampede.begin(plan);
        for (int now = 0; now <= LAST_RUSH_TICK; now++) {
            stampede.arrive(now);
            if (stampede.peopleIn(plan.safeRooms) == all) {
                return now;
            }
            stampede.leave(plan, now);
        }
        return NONE;
    }

    // ---- 4 images

    public int image(int k) {
        if (!isWithin(k, 0, IMAGES - 1)) {
            return OUTSIDE;
        }
        imageAt(k).copy(plan);
        imagesKept |= 1 << k;
        return 1;
    }

    public int restore(int k) {
        if (!isWithin(k, 0, IMAGES - 1)) {
            return OUTSIDE;
        }
        if (!isIn(imagesKept, k)) {
            return STATE;
        }
        plan.copy(imageAt(k));
        return 1;
    }

    public int count(int what) {
        switch (what) {
            case 0:
                return plan.allPeople();
            case 1:
                return plan.passages;
            case 2:
                return pad.size;
            case 3:
                return plan.passagesEverShut();
            case 4:
                return plan.safeRooms;
            case 5:
                return imagesKept;
            default:
                return OUTSIDE;
        }
    }

    // ---- what the calls share

    private static boolean isWithin(int number, int least, int most) {
        return number >= least && number <= most;
    }

    private static boolean isRoom(int room) {
        return isWithin(room, 0, ROOMS - 1);
    }

    private static boolean isIn(int set, int k) {
        return (set >> k & 1) == 1;
    }

    private boolean isPassage(int passage) {
        return isWithin(passage, 0, plan.passages - 1);
    }

    private Plan imageAt(int k) {
        return k == 0 ? firstImage : secondImage;
    }

    /** LAST or NONE; the flow stays as one that has all out by then, or as many as can be. */
    private int leadAll() {
        flow.begin(plan);
        for (int tick = 0; tick <= LAST_TICK; tick++) {
            if (flow.leadsAllBy(tick)) {
                return tick;
            }
        }
        return NONE;
    }

    private boolean canDoShut(int passage, int shutTick, int goal) {
        trial.begin(plan);
        trial.setShut(passage, shutTick);
        return trial.leadsAllBy(goal);
    }

    /** The bits of a float that is 0 or from 2 to the power of -126 up, found by arithmetic alone. */
    private static int bitsOf(float number) {
        if (!(number > 0f)) {
            return 0;
        }
        int exponent = 127;
        float scaled = number;
        for (int n = 0; n < 128 && scaled >= 2f; n++) {
            scaled = scaled * 0.5f;
            exponent++;
        }
        for (int n = 0; n < 126 && scaled < 1f; n++) {
            scaled = scaled * 2f;
            exponent--;
        }
        int fraction = (int) (scaled * 8388608f) - 8388608;
        return (exponent << 23) + fraction;
    }

    /** ROOMS and PASSAGES: all that an image keeps. */
    private static final class Plan {
        private final int[] people = new int[ROOMS];
        private final int[] area = new int[ROOMS];
        private int safeRooms = 0;
        private int passages = 0;
        private final int[] from = new int[PASSAGES];
        private final int[] to = new int[PASSAGES];
        private final int[] width = new int[PASSAGES];
        private final int[] length = new int[PASSAGES];
        private final int[] shut = new int[PASSAGES];

        private Plan() {
            Arrays.fill(area, FIRST_AREA);
        }

        private void copy(Plan other) {
            System.arraycopy(other.people, 0, people, 0, ROOMS);
            System.arraycopy(other.area, 0, area, 0, ROOMS);
            safeRooms = other.safeRooms;
            passages = other.passages;
            System.arraycopy(other.from, 0, from, 0, PASSAGES);
            System.arraycopy(other.to, 0, to, 0, PASSAGES);
            System.arraycopy(other.width, 0, width, 0, PASSAGES);
            System.arraycopy(other.length, 0, length, 0, PASSAGES);
            System.arraycopy(other.shut, 0, shut, 0, PASSAGES);
        }

        private void addPassage(int start, int end, int wide, int far) {
            if (passages >= PASSAGES) {
                return;
            }
            from[passages] = start;
            to[passages] = end;
            width[passages] = wide;
            length[passages] = far;
            shut[passages] = NEVER;
            passages++;
        }

        private int shutTickOrNone(int passage) {
            return shut[passage] == NEVER ? NONE : shut[passage];
        }

        private int passagesEverShut() {
            int number = 0;
            for (int passage = 0; passage < passages; passage++) {
                if (shut[passage] != NEVER) {
                    number++;
                }
            }
            return number;
        }

        private boolean anyShutsAt(int tick) {
            for (int passage = 0; passage < passages; passage++) {
                if (shut[passage] == tick) {
                    return true;
                }
            }
            return false;
        }

        private int allPeople() {
            int sum = 0;
            for (int room = 0; room < ROOMS; room++) {
                sum += people[room];
            }
            return sum;
        }

        private float crowd(int room) {
            if (area[room] <= 0) {
                return 0f;
            }
            return (float) people[room] / (float) area[room];
        }

        private float pace(int room) {
            float slower = 0.25f * crowd(room);
            float pace = 1.34f - slower;
            return pace < 0.1f ? 0.1f : pace;
        }
    }

    /** THE PAD. */
    private static final class Pad {
        private final int[] signs = new int[PAD_SIGNS];
        private int size = 0;

        private void add(int sign) {
            if (size < PAD_SIGNS) {
                signs[size] = sign;
                size++;
            }
        }

        private int faultPlace() {
            for (int place = 0; place < size; place++) {
                if (!canStand(place)) {
                    return place;
                }
            }
            return size % SIGNS_A_PASSAGE == 0 ? NONE : size;
        }

        private boolean canStand(int place) {
            int sign = signs[place];
            switch (place % SIGNS_A_PASSAGE) {
                case 0:
                    return isRoom(sign - 'a');
                case 1:
                    return isRoom(sign - 'a') && sign != signs[place - 1];
                case 2:
                    return isWithin(sign - '0', 1, MOST_WIDTH);
                default:
                    return isWithin(sign - '0', 1, MOST_LENGTH);
            }
        }

        /** Only for a pad without a fault, whose passages the plan has space for. */
        private void moveInto(Plan plan) {
            for (int place = 0; place + 3 < size; place += SIGNS_A_PASSAGE) {
                plan.addPassage(signs[place] - 'a', signs[place + 1] - 'a',
                        signs[place + 2] - '0', signs[place + 3] - '0');
            }
            size = 0;
        }
    }

    /**
     * How many enter which passage at which tick, so that the most are out. It grows way by way; a new way may
     * also go a step of earlier ones backwards, which takes that step back, so the most is always found.
     * To wait in a room for a tick is a lane like the passages, from the room to itself: lanes 0 to 5.
     */
    private static final class Flow {
        private static final int TICKS = LAST_TICK + 1;
        private static final int LANES = ROOMS + PASSAGES;
        private static final int PLACES = ROOMS * TICKS;
        private static final int UNBOUNDED = ROOMS * MOST_PEOPLE;

        private int lanes = ROOMS;
        private final int[] from = new int[LANES];
        private final int[] to = new int[LANES];
        private final int[] width = new int[LANES];
        private final int[] length = new int[LANES];
        private final int[] shut = new int[LANES];
        private int safeRooms = 0;
        private int people = 0;
        private int led = 0;
        private final int[] notLed = new int[ROOMS];
        private final int[] entering = new int[LANES * TICKS];
        /** The latest tick at which somebody in a room can still be led out in time; -1: none is known. */
        private final int[] latest = new int[ROOMS];
        /** The next step from a room at a tick: lane + 1 to enter a lane, -(lane + 1) to go it backwards. */
        private final int[] step = new int[PLACES];
        private final int[] wayEntry = new int[PLACES];
        private final boolean[] wayAhead = new boolean[PLACES];
        private int waySteps = 0;
        private int wayWidth = 0;

        private Flow() {
            for (int room = 0; room < ROOMS; room++) {
                from[room] = room;
                to[room] = room;
                width[room] = UNBOUNDED;
                length[room] = 1;
                shut[room] = NEVER;
            }
        }

        private void begin(Plan plan) {
            lanes = ROOMS + plan.passages;
            System.arraycopy(plan.from, 0, from, ROOMS, PASSAGES);
            System.arraycopy(plan.to, 0, to, ROOMS, PASSAGES);
            System.arraycopy(plan.width, 0, width, ROOMS, PASSAGES);
            System.arraycopy(plan.length, 0, length, ROOMS, PASSAGES);
            System.arraycopy(plan.shut, 0, shut, ROOMS, PASSAGES);
            safeRooms = plan.safeRooms;
            people = plan.allPeople();
            led = people;
            for (int room = 0; room < ROOMS; room++) {
                notLed[room] = isIn(safeRooms, room) ? 0 : plan.people[room];
                led -= notLed[room];
            }
            Arrays.fill(entering, 0);
        }

        private void copy(Flow other) {
            lanes = other.lanes;
            System.arraycopy(other.from, 0, from, 0, LANES);
            System.arraycopy(other.to, 0, to, 0, LANES);
            System.arraycopy(other.width, 0, width, 0, LANES);
            System.arraycopy(other.length, 0, length, 0, LANES);
            System.arraycopy(other.shut, 0, shut, 0, LANES);
            safeRooms = other.safeRooms;
            people = other.people;
            led = other.led;
            System.arraycopy(other.notLed, 0, notLed, 0, ROOMS);
            System.arraycopy(other.entering, 0, entering, 0, LANES * TICKS);
        }

        private void setWidth(int passage, int wide) {
            width[ROOMS + passage] = wide;
        }

        private void setShut(int passage, int tick) {
            shut[ROOMS + passage] = tick;
        }

        /** The last tick at which somebody enters a passage; -1: nobody does. */
        private int lastUse(int passage) {
            int row = (ROOMS + passage) * TICKS;
            for (int tick = LAST_TICK; tick >= 0; tick--) {
                if (entering[row + tick] > 0) {
                    return tick;
                }
            }
            return -1;
        }

        private boolean leadsAllBy(int goal) {
            return leadBy(goal) == people;
        }

        /** Leads out all who can be safe at the goal's tick, and tells how many are; goals may only grow. */
        private int leadBy(int goal) {
            for (int ways = 0; ways <= UNBOUNDED && led < people; ways++) {
                int room = findWayOut(goal);
                if (room < 0) {
                    return led;
                }
                traceWay(room);
                if (wayWidth <= 0) {
                    return led;
                }
                leadAlongWay(room);
            }
            return led;
        }

        /** Searches from the safe rooms backwards: a room with somebody not led from which there is a way, or -1. */
        private int findWayOut(int goal) {
            for (int room = 0; room < ROOMS; room++) {
                latest[room] = isIn(safeRooms, room) ? goal : -1;
            }
            boolean more = true;
            for (int round = 0; more && round <= PLACES; round++) {
                more = false;
                for (int room = 0; room < ROOMS; room++) {
                    more |= reachByNotWaiting(room, goal);
                }
                for (int lane = ROOMS; lane < lanes; lane++) {
                    // Nobody leaves a safe room.
                    if (!isIn(safeRooms, from[lane])) {
                        more |= reachByEntering(lane);
                        more |= reachByTakingBack(lane, goal);
                    }
                }
                int room = reachedRoomNotLed();
                if (room >= 0) {
                    return room;
                }
            }
            return -1;
        }

        private int reachedRoomNotLed() {
            for (int room = 0; room < ROOMS; room++) {
                if (notLed[room] > 0 && latest[room] >= 0) {
                    return room;
                }
            }
            return -1;
        }

        /** Who comes a tick later than somebody who waits can take that one's place: the other then goes at once. */
        private boolean reachByNotWaiting(int room, int goal) {
            int row = room * TICKS;
            int tick = latest[room];
            if (tick < 0) {
                return false;
            }
            while (tick < goal && entering[row + tick] > 0) {
                tick++;
                step[row + tick] = -(room + 1);
            }
            boolean reached = tick > latest[room];
            latest[room] = tick;
            return reached;
        }

        private boolean reachByEntering(int lane) {
            int row = lane * TICKS;
            int start = from[lane];
            int tick = Math.min(latest[to[lane]] - length[lane], shut[lane] - 1);
            for (; tick > latest[start]; tick--) {
                if (entering[row + tick] < width[lane]) {
                    reach(start, tick, lane + 1);
                    return true;
                }
            }
            return false;
        }

        private boolean reachByTakingBack(int lane, int goal) {
            int row = lane * TICKS;
            int end = to[lane];
            int tick = Math.min(latest[from[lane]], goal - length[lane]);
            for (; tick >= 0 && tick + length[lane] > latest[end]; tick--) {
                if (entering[row + tick] > 0) {
                    reach(end, tick + length[lane], -(lane + 1));
                    return true;
                }
            }
            return false;
        }

        /** Who is there earlier waits: so the ticks between are reached too. */
        private void reach(int room, int tick, int next) {
            int row = room * TICKS;
            for (int before = latest[room] + 1; before < tick; before++) {
                step[row + before] = room + 1;
            }
            step[row + tick] = next;
            latest[room] = tick;
        }

        /**
         * Each step leads to a place that was reached before the step was put: so the way ends, in a safe room.
         * Were there ever a place without a step, the way would have no width, and nobody would be led along it.
         */
        private void traceWay(int start) {
            int room = start;
            int tick = 0;
            wayWidth = notLed[start];
            for (waySteps = 0; waySteps < PLACES && !isIn(safeRooms, room); waySteps++) {
                int next = step[room * TICKS + tick];
                boolean ahead = next > 0;
                int lane = Math.abs(next) - 1;
                if (!isWithin(lane, 0, lanes - 1)) {
                    wayWidth = 0;
                    return;
                }
                int entryTick = ahead ? tick : tick - length[lane];
                tick = ahead ? tick + length[lane] : entryTick;
                if (!isWithin(entryTick, 0, LAST_TICK) || !isWithin(tick, 0, LAST_TICK)) {
                    wayWidth = 0;
                    return;
                }
                room = ahead ? to[lane] : from[lane];
                int entry = lane * TICKS + entryTick;
                wayWidth = Math.min(wayWidth, ahead ? width[lane] - entering[entry] : entering[entry]);
                wayEntry[waySteps] = entry;
                wayAhead[waySteps] = ahead;
            }
        }

        private void leadAlongWay(int start) {
            for (int n = 0; n < waySteps; n++) {
                entering[wayEntry[n]] += wayAhead[n] ? wayWidth : -wayWidth;
            }
            notLed[start] -= wayWidth;
            led += wayWidth;
        }
    }

    /** RUSH, tick by tick. */
    private static final class Stampede {
        /** More than any way is long. */
        private static final int NO_WAY = 1000;
        /** Nobody is longer under way than the longest passage is: so the rows of arrivals are used in turn. */
        private static final int TURNS = MOST_LENGTH + 1;

        private final int[] here = new int[ROOMS];
        private final int[] arriving = new int[TURNS * ROOMS];
        private final int[] distance = new int[ROOMS];
        private final int[] firstPassage = new int[ROOMS];

        private void begin(Plan plan) {
            System.arraycopy(plan.people, 0, here, 0, ROOMS);
            Arrays.fill(arriving, 0);
        }

        private void arrive(int tick) {
            int row = tick % TURNS * ROOMS;
            for (int room = 0; room < ROOMS; room++) {
                here[room] += arriving[row + room];
                arriving[row + room] = 0;
            }
        }

        private int peopleIn(int rooms) {
            int sum = 0;
            for (int room = 0; room < ROOMS; room++) {
                if (isIn(rooms, room)) {
                    sum += here[room];
                }
            }
            return sum;
        }

        private void leave(Plan plan, int tick) {
            // Ways change only when a passage is shut.
            if (tick == 0 || plan.anyShutsAt(tick)) {
                findDistances(plan, tick);
                findFirstPassages(plan, tick);
            }
            for (int room = 0; room < ROOMS; room++) {
                int passage = firstPassage[room];
                if (passage >= 0) {
                    int going = Math.min(here[room], plan.width[passage]);
                    here[room] -= going;
                    int row = (tick + plan.length[passage]) % TURNS * ROOMS;
                    arriving[row + plan.to[passage]] += going;
                }
            }
        }

        private void findDistances(Plan plan, int tick) {
            for (int room = 0; room < ROOMS; room++) {
                distance[room] = isIn(plan.safeRooms, room) ? 0 : NO_WAY;
            }
            boolean more = true;
            for (int round = 0; more && round < ROOMS; round++) {
                more = false;
                for (int passage = 0; passage < plan.passages; passage++) {
                    int through = distanceThrough(plan, passage, tick);
                    if (through < distance[plan.from[passage]]) {
                        distance[plan.from[passage]] = through;
                        more = true;
                    }
                }
            }
        }

        private int distanceThrough(Plan plan, int passage, int tick) {
            int beyond = distance[plan.to[passage]];
            return plan.shut[passage] <= tick || beyond == NO_WAY ? NO_WAY : plan.length[passage] + beyond;
        }

        private void findFirstPassages(Plan plan, int tick) {
            Arrays.fill(firstPassage, -1);
            for (int passage = plan.passages - 1; passage >= 0; passage--) {
                int room = plan.from[passage];
                int through = distanceThrough(plan, passage, tick);
                // A safe room's distance is 0, so no passage is found for it: who is there stays.
                if (through != NO_WAY && through == distance[room]) {
                    firstPassage[room] = passage;
                }
            }
        }
    }
}
