import java.util.Arrays;

/** A yard of switches that turn by themselves behind each truck; ../shared/DOC.md says what each call promises. */
public final class PointsThrow {
    public static final int NONE = -1, UNKNOWN = -101, OUTSIDE = -102, STATE = -103, FULL = -104;

    private static final int MOST_LETTERS = 50, MOST_SWITCHES = 10, MOST_WAYS = 3, MOST_STANDS = 2 * MOST_WAYS;
    private static final int MOST_TRUCKS = 60, MOST_MOVES = 500, MOST_COUNTED = 1000000;
    private static final int MOST_WANTED = 8, PLANNED_SWITCHES = 6, MOST_PLANS = 20;
    private static final int MOST_EMPTY = 200, MOST_TOLD = 40, NONE_STUCK = 10;
    private static final int SWITCH = 0, HELD = 1, SWINGING = 2, LAZY = 3;

    /** A place is a siding's number, or SIDINGS and a switch's number; trucks come to switch a first. */
    private static final int SIDINGS = 10, HUMP = SIDINGS;

    private final Page page;
    private final Scene scene;
    private final Scene kept;
    private final Roller roller;
    private final Beginning beginning;
    private final Throwing throwing;
    private final Suspects suspects;
    private final int[] wanted;
    private final int[] spare;
    private final int[] emptyAhead;
    private Yard theYard;
    private boolean isKept;
    private int wantedCount;
    private int yardsRead;
    private int plansDone;

    public PointsThrow() {
        page = new Page();
        scene = new Scene();
        kept = new Scene();
        roller = new Roller();
        beginning = new Beginning();
        throwing = new Throwing();
        suspects = new Suspects(roller);
        wanted = new int[MOST_WANTED];
        spare = new int[MOST_SWITCHES];
        emptyAhead = new int[SIDINGS];
    }

    // ---- the yard

    public int letters(long w) {
        return page.append(w);
    }

    public int blank() {
        return page.wipe();
    }

    public int fault() {
        return page.faultPlace();
    }

    public int yard() {
        Yard read = page.read();
        if (read == null) {
            return STATE;
        }
        theYard = read;
        page.wipe();
        scene.reset();
        isKept = false;
        yardsRead++;
        return read.size;
    }

    public int about(int point, int what) {
        if (!isPoint(point)) {
            return UNKNOWN;
        }
        Point asked = theYard.points[point];
        int stand = scene.stands[point];
        switch (what) {
            case 0: return asked.kind();
            case 1: return asked.ways.length;
            case 2: return stand;
            case 3: return asked.standCount();
            case 4: return asked.wayAt(stand);
            case 10:
            case 11:
            case 12: return asked.placeBy(what - 10);
            default: return OUTSIDE;
        }
    }

    public int as(int point, int kind) {
        if (!isPoint(point)) {
            return UNKNOWN;
        }
        if (kind < SWITCH || kind > LAZY) {
            return OUTSIDE;
        }
        return canBeTakenAs(theYard.points[point], kind) ? point : NONE;
    }

    public int lever(int point, int way) {
        if (!isPoint(point)) {
            return UNKNOWN;
        }
        Point thrown = theYard.points[point];
        if (way < 0 || way >= thrown.ways.length) {
            return OUTSIDE;
        }
        int was = scene.stands[point];
        scene.stands[point] = thrown.firstStandAt(way);
        return was;
    }

    public int anew() {
        if (theYard == null) {
            return STATE;
        }
        int had = scene.trucks;
        scene.reset();
        return had;
    }

    // ---- trucks

    public int down() {
        if (theYard == null) {
            return STATE;
        }
        if (scene.trucks >= MOST_TRUCKS) {
            return FULL;
        }
        int siding = roller.send(theYard, scene.stands, NONE);
        if (siding != NONE) {
            scene.put(siding);
        }
        return siding;
    }

    public int many(int siding) {
        return isSiding(siding) ? scene.trucksIn(siding) : UNKNOWN;
    }

    public int truck(int siding, int i) {
        if (!isSiding(siding)) {
            return UNKNOWN;
        }
        if (i < 0 || i >= MOST_TRUCKS) {
            return OUTSIDE;
        }
        return scene.truckIn(siding, i);
    }

    public int moves() {
        if (theYard == null) {
            return STATE;
        }
        roller.send(theYard, spareStands(), NONE);
        return roller.lastMoves;
    }

    public int round() {
        if (theYard == null) {
            return STATE;
        }
        return roller.roundOf(theYard, spareStands());
    }

    public int straight() {
        if (theYard == null) {
            return STATE;
        }
        return theYard.isStraight ? 1 : 0;
    }

    public int nth(int n) {
        if (!isStraightYard()) {
            return STATE;
        }
        if (n < 1 || n > MOST_COUNTED) {
            return OUTSIDE;
        }
        int[] stands = spareStands();
        theYard.countOn(n - 1, stands);
        return roller.send(theYard, stands, NONE);
    }

    public int behind(int n, int point) {
        if (!isPoint(point)) {
            return UNKNOWN;
        }
        if (!isStraightYard()) {
            return STATE;
        }
        if (n < 1 || n > MOST_COUNTED) {
            return OUTSIDE;
        }
        int[] stands = spareStands();
        theYard.countOn(n, stands);
        return stands[point];
    }

    public int ago(int n, int point) {
        if (!isPoint(point)) {
            return UNKNOWN;
        }
        if (!isStraightYard()) {
            return STATE;
        }
        if (n < 0 || n > MOST_COUNTED) {
            return OUTSIDE;
        }
        int[] stands = spareStands();
        theYard.countBack(n, stands);
        return stands[point];
    }

    // ---- plans

    public int want(int siding) {
        if (!isSiding(siding)) {
            return UNKNOWN;
        }
        if (wantedCount >= MOST_WANTED) {
            return FULL;
        }
        wanted[wantedCount] = siding;
        wantedCount++;
        return wantedCount;
    }

    public int clear() {
        int had = wantedCount;
        wantedCount = 0;
        return had;
    }

    public int begin(int what) {
        if (theYard == null) {
            return STATE;
        }
        if (what != 0 && (what < 10 || what >= 10 + PLANNED_SWITCHES)) {
            return OUTSIDE;
        }
        if (!mayPlan()) {
            return STATE;
        }
        plansDone++;
        if (!beginning.search(theYard, scene.stands, wanted, wantedCount)) {
            return NONE;
        }
        if (what == 0) {
            return beginning.fewest;
        }
        return what - 10 < theYard.size ? beginning.best[what - 10] : NONE;
    }

    public int hands() {
        if (!isStraightYard() || !mayPlan()) {
            return STATE;
        }
        plansDone++;
        return throwing.fewest(theYard, scene.stands, wanted, wantedCount);
    }

    public int empty(int siding) {
        if (!isSiding(siding)) {
            return UNKNOWN;
        }
        if (theYard == null) {
            return STATE;
        }
        findEmptyAhead();
        return emptyAhead[siding];
    }

    public int which() {
        if (theYard == null || wantedCount == 0) {
            return STATE;
        }
        int bits = 0;
        for (int i = 0; i < theYard.size; i++) {
            if (isExplainedBy(i)) {
                bits |= 1 << i;
            }
        }
        return isExplainedBy(NONE) ? bits | 1 << NONE_STUCK : bits;
    }

    public int noticed() {
        if (theYard == null) {
            return STATE;
        }
        suspects.watch(theYard, scene.stands);
        return suspects.orNone(suspects.trucksToNotice());
    }

    public int apart() {
        if (theYard == null) {
            return STATE;
        }
        suspects.watch(theYard, scene.stands);
        return suspects.orNone(Math.max(suspects.trucksToNotice(), suspects.trucksToTellApart()));
    }

    // ---- what is told

    public int image() {
        if (theYard == null) {
            return STATE;
        }
        kept.copyFrom(scene);
        isKept = true;
        return kept.trucks;
    }

    public int restore() {
        if (!isKept) {
            return STATE;
        }
        scene.copyFrom(kept);
        return scene.trucks;
    }

    public int count(int what) {
        switch (what) {
            case 0: return theYard == null ? 0 : theYard.size;
            case 1: return scene.trucks;
            case 2: return wantedCount;
            case 3: return page.size;
            case 4: return yardsRead;
            case 5: return plansDone;
            default: return OUTSIDE;
        }
    }

    public long digest() {
        long h = digestOfSwitches(521);
        h = digestOfSidings(h);
        if (theYard != null) {
            h = digestOfTrials(h);
            h = 31 * h + noticed();
        }
        for (int i = 0; i < wantedCount; i++) {
            h = 31 * h + wanted[i];
        }
        for (int i = 0; i < page.size; i++) {
            h = 31 * h + page.row[i];
        }
        for (int what = 0; what <= 5; what++) {
            h = 31 * h + count(what);
        }
        return h;
    }

    private long digestOfSwitches(long begun) {
        long h = begun;
        int size = count(0);
        for (int i = 0; i < size; i++) {
            for (int what = 0; what <= 4; what++) {
                h = 31 * h + about(i, what);
            }
            for (int what = 10; what <= 12; what++) {
                h = 31 * h + about(i, what);
            }
        }
        return h;
    }

    private long digestOfSidings(long begun) {
        long h = begun;
        for (int siding = 0; siding < SIDINGS; siding++) {
            int stood = scene.trucksIn(siding);
            h = 31 * h + stood;
            for (int i = 0; i < stood; i++) {
                h = 31 * h + scene.truckIn(siding, i);
            }
        }
        return h;
    }

    private long digestOfTrials(long begun) {
        long h = 31 * begun + moves();
        h = 31 * h + straight();
        findEmptyAhead();
        for (int siding = 0; siding < SIDINGS; siding++) {
            h = 31 * h + emptyAhead[siding];
        }
        return h;
    }

    private boolean isPoint(int point) {
        return theYard != null && point >= 0 && point < theYard.size;
    }

    private boolean isStraightYard() {
        return theYard != null && theYard.isStraight;
    }

    private boolean mayPlan() {
        return theYard != null && theYard.size <= PLANNED_SWITCHES && wantedCount > 0 && plansDone < MOST_PLANS;
    }

    /** The stands of now in a row that trials may change. */
    private int[] spareStands() {
        System.arraycopy(scene.stands, 0, spare, 0, MOST_SWITCHES);
        return spare;
    }

    /** One run of trucks answers for all sidings at once, as digest() asks for each. */
    private void findEmptyAhead() {
        int[] stands = spareStands();
        Arrays.fill(emptyAhead, NONE);
        for (int ahead = 0; ahead <= MOST_EMPTY; ahead++) {
            int siding = roller.send(theYard, stands, NONE);
            if (!isSiding(siding)) {
                // It goes round and leaves all stands as they are, so all later ones would too.
                return;
            }
            if (emptyAhead[siding] == NONE) {
                emptyAhead[siding] = ahead;
            }
        }
    }

    private boolean isExplainedBy(int stuck) {
        int[] stands = spareStands();
        for (int i = 0; i < wantedCount; i++) {
            if (roller.send(theYard, stands, stuck) != wanted[i]) {
                return false;
            }
        }
        return true;
    }

    private static boolean isSiding(int siding) {
        return siding >= 0 && siding < SIDINGS;
    }

    private static boolean canBeTakenAs(Point point, int kind) {
        switch (kind) {
            case HELD: return point instanceof Held;
            case SWINGING: return point instanceof Swinging;
            case LAZY: return point instanceof Lazy;
            default: return true;
        }
    }

    /** A switch without a sign; the other kinds change how it stands and turns. */
    private static class Point {
        final int[] ways;

        Point(int[] ways) {
            this.ways = ways;
        }

        int kind() {
            return SWITCH;
        }

        int standCount() {
            return ways.length;
        }

        int wayAt(int stand) {
            return stand;
        }

        int firstStandAt(int way) {
            return way;
        }

        /** How many trucks bring it back to the same stand. */
        int period() {
            return standCount();
        }

        /** Where it is after so many turns, or was so many ago, if they are below 0. */
        final int turned(int stand, int times) {
            int period = period();
            return period < 2 ? stand : Math.floorMod(stand + times, period);
        }

        final int placeBy(int way) {
            return way >= 0 && way < ways.length ? ways[way] : NONE;
        }

        final boolean canTurn() {
            return period() > 1;
        }
    }

    private static class Held extends Point {
        Held(int[] ways) {
            super(ways);
        }

        int kind() {
            return HELD;
        }

        int period() {
            return 1;
        }
    }

    private static final class Swinging extends Point {
        Swinging(int[] ways) {
            super(ways);
        }

        int kind() {
            return SWINGING;
        }

        int standCount() {
            return Math.max(1, 2 * ways.length - 2);
        }

        int wayAt(int stand) {
            return stand < ways.length ? stand : 2 * ways.length - 2 - stand;
        }
    }

    /** Held by the cast alone: it turns, though only behind every second truck to another way. */
    private static final class Lazy extends Held {
        Lazy(int[] ways) {
            super(ways);
        }

        int kind() {
            return LAZY;
        }

        int standCount() {
            return 2 * ways.length;
        }

        int wayAt(int stand) {
            return stand / 2;
        }

        int firstStandAt(int way) {
            return 2 * way;
        }

        int period() {
            return standCount();
        }
    }

    /** The text that comes by letters until a yard is read from it. */
    private static final class Page {
        final int[] row = new int[MOST_LETTERS];
        int size;

        int append(long w) {
            int come = lettersIn(w);
            if (come < 0) {
                return OUTSIDE;
            }
            if (size + come > MOST_LETTERS) {
                return FULL;
            }
            for (int i = 0; i < come; i++) {
                row[size + i] = codeIn(w, i);
            }
            size += come;
            return size;
        }

        int wipe() {
            int had = size;
            size = 0;
            return had;
        }

        int faultPlace() {
            int switches = 1;
            int ways = 0;
            boolean signed = false;
            for (int i = 0; i < size; i++) {
                int code = row[i];
                if (placeOf(code) != NONE) {
                    ways++;
                    if (ways > MOST_WAYS) {
                        return i;
                    }
                } else if (code == ';') {
                    if (ways == 0 || switches == MOST_SWITCHES) {
                        return i;
                    }
                    switches++;
                    ways = 0;
                    signed = false;
                } else {
                    if (kindOf(code) == SWITCH || signed || ways > 0) {
                        return i;
                    }
                    signed = true;
                }
            }
            return size;
        }

        /** Null, if the page is no yard. */
        Yard read() {
            if (size == 0 || faultPlace() < size || placeOf(row[size - 1]) == NONE) {
                return null;
            }
            int switches = switchCount();
            for (int i = 0; i < size; i++) {
                if (placeOf(row[i]) >= SIDINGS + switches) {
                    return null;
                }
            }
            Point[] points = new Point[switches];
            int from = 0;
            for (int i = 0; i < switches; i++) {
                int end = endFrom(from);
                points[i] = pointIn(from, end);
                from = end + 1;
            }
            return new Yard(points);
        }

        private int switchCount() {
            int switches = 1;
            for (int i = 0; i < size; i++) {
                if (row[i] == ';') {
                    switches++;
                }
            }
            return switches;
        }

        private int endFrom(int from) {
            for (int i = from; i < size; i++) {
                if (row[i] == ';') {
                    return i;
                }
            }
            return size;
        }

        private Point pointIn(int from, int end) {
            int kind = kindOf(row[from]);
            int first = kind == SWITCH ? from : from + 1;
            int[] ways = new int[Math.max(0, end - first)];
            for (int i = 0; i < ways.length; i++) {
                ways[i] = placeOf(row[first + i]);
            }
            switch (kind) {
                case HELD: return new Held(ways);
                case SWINGING: return new Swinging(ways);
                case LAZY: return new Lazy(ways);
                default: return new Point(ways);
            }
        }

        private static int codeIn(long w, int i) {
            return (int) (w >>> (8 * i)) & 255;
        }

        private static int lettersIn(long w) {
            int come = 0;
            for (int i = 0; i < 8; i++) {
                int code = codeIn(w, i);
                if (code > 126 || code != 0 && come < i) {
                    return OUTSIDE;
                }
                if (code != 0) {
                    come++;
                }
            }
            return come;
        }

        private static int kindOf(int code) {
            switch (code) {
                case '=': return HELD;
                case '~': return SWINGING;
                case '^': return LAZY;
                default: return SWITCH;
            }
        }

        private static int placeOf(int code) {
            if (code >= '0' && code <= '9') {
                return code - '0';
            }
            return code >= 'a' && code <= 'j' ? SIDINGS + code - 'a' : NONE;
        }
    }

    /** The switches as they were read; how they stand is kept in rows outside it. */
    private static final class Yard {
        final Point[] points;
        final int size;
        final boolean isStraight;
        /** The switches a truck can come to; in a straight yard each ahead of those that it leads to. */
        final int[] order;
        /** Of each switch and stand where it leads and the stand that it turns to: trials ask for little else. */
        private final int[] places = new int[MOST_SWITCHES * MOST_STANDS];
        private final int[] nextStands = new int[MOST_SWITCHES * MOST_STANDS];
        /** Of each siding: bits of the switches from which some ways lead there. */
        private final int[] leadingTo = new int[SIDINGS];
        private final int[] passing = new int[MOST_SWITCHES];

        Yard(Point[] points) {
            this.points = points;
            size = Math.min(points.length, MOST_SWITCHES);
            int come = reachedFrom(1);
            isStraight = !hasLoop(come);
            order = ordered(come);
            for (int i = 0; i < size; i++) {
                tellStands(i);
                tellSidings(i);
            }
        }

        /** A truck goes on from a switch, which turns: the next place. */
        int pass(int i, int[] stands, int stuck) {
            if (i < 0 || i >= size) {
                return NONE;
            }
            int at = i * MOST_STANDS + stands[i];
            if (at < 0 || at >= places.length) {
                return NONE;
            }
            if (i != stuck) {
                stands[i] = nextStands[at];
            }
            return places[at];
        }

        int placeFrom(int i, int stand) {
            int at = i * MOST_STANDS + stand;
            return at >= 0 && at < places.length ? places[at] : NONE;
        }

        int standAfter(int i, int stand) {
            int at = i * MOST_STANDS + stand;
            return at >= 0 && at < nextStands.length ? nextStands[at] : 0;
        }

        boolean canLead(int i, int siding) {
            return siding >= 0 && siding < SIDINGS && (leadingTo[siding] >> i & 1) == 1;
        }

        private void tellStands(int i) {
            Point point = points[i];
            int count = Math.min(point.standCount(), MOST_STANDS);
            for (int stand = 0; stand < count; stand++) {
                places[i * MOST_STANDS + stand] = point.placeBy(point.wayAt(stand));
                nextStands[i * MOST_STANDS + stand] = point.turned(stand, 1);
            }
        }

        private void tellSidings(int i) {
            int reached = reachedFrom(1 << i);
            for (int k = 0; k < size; k++) {
                if ((reached >> k & 1) == 1) {
                    for (int place : points[k].ways) {
                        if (isSiding(place)) {
                            leadingTo[place] |= 1 << i;
                        }
                    }
                }
            }
        }

        /** Stands behind n trucks, in a straight yard. */
        void countOn(int n, int[] stands) {
            startCount(n);
            for (int k = 0; k < order.length; k++) {
                int i = order[k];
                share(i, stands[i]);
                stands[i] = points[i].turned(stands[i], passing[i]);
            }
        }

        /** Stands n trucks ago, in a straight yard: what came last to a switch tells what it sent on. */
        void countBack(int n, int[] stands) {
            startCount(n);
            for (int k = 0; k < order.length; k++) {
                int i = order[k];
                stands[i] = points[i].turned(stands[i], -passing[i]);
                share(i, stands[i]);
            }
        }

        private void startCount(int n) {
            Arrays.fill(passing, 0);
            passing[0] = n;
        }

        /** Hands on the trucks that come to a switch, from the stand that the first of them finds. */
        private void share(int i, int firstStand) {
            Point point = points[i];
            int period = point.period();
            for (int k = 0; k < period; k++) {
                int place = placeFrom(i, point.turned(firstStand, k));
                if (place >= SIDINGS) {
                    passing[place - SIDINGS] += (passing[i] + period - 1 - k) / period;
                }
            }
        }

        /** Bits of switches that the switches of these bits lead to by one way. */
        private int nextOf(int bits) {
            int next = 0;
            for (int i = 0; i < size; i++) {
                if ((bits >> i & 1) == 1) {
                    for (int place : points[i].ways) {
                        next |= place >= SIDINGS ? 1 << place - SIDINGS : 0;
                    }
                }
            }
            return next;
        }

        private int reachedFrom(int bits) {
            int reached = bits;
            for (int k = 0; k < size; k++) {
                reached |= nextOf(reached);
            }
            return reached;
        }

        private boolean hasLoop(int come) {
            for (int i = 0; i < size; i++) {
                if ((come >> i & 1) == 1 && (reachedFrom(nextOf(1 << i)) >> i & 1) == 1) {
                    return true;
                }
            }
            return false;
        }

        /** Without a loop a switch reaches more switches than any that it leads to. */
        private int[] ordered(int come) {
            int[] row = new int[Integer.bitCount(come)];
            int filled = 0;
            for (int reach = size; reach > 0; reach--) {
                for (int i = 0; i < size; i++) {
                    if ((come >> i & 1) == 1 && Integer.bitCount(reachedFrom(1 << i)) == reach) {
                        row[filled] = i;
                        filled++;
                    }
                }
            }
            return row;
        }
    }

    /** How all stands, and in which siding each truck is: what an image keeps. */
    private static final class Scene {
        final int[] stands = new int[MOST_SWITCHES];
        private final int[] sidingOf = new int[MOST_TRUCKS];
        int trucks;

        void reset() {
            Arrays.fill(stands, 0);
            trucks = 0;
        }

        void copyFrom(Scene other) {
            System.arraycopy(other.stands, 0, stands, 0, stands.length);
            System.arraycopy(other.sidingOf, 0, sidingOf, 0, sidingOf.length);
            trucks = other.trucks;
        }

        void put(int siding) {
            if (trucks < sidingOf.length) {
                sidingOf[trucks] = siding;
                trucks++;
            }
        }

        int trucksIn(int siding) {
            int stood = 0;
            for (int t = 0; t < trucks; t++) {
                if (sidingOf[t] == siding) {
                    stood++;
                }
            }
            return stood;
        }

        int truckIn(int siding, int i) {
            int stood = 0;
            for (int t = 0; t < trucks; t++) {
                if (sidingOf[t] == siding) {
                    if (stood == i) {
                        return t;
                    }
                    stood++;
                }
            }
            return NONE;
        }
    }

    /** Lets one truck roll through a row of stands. */
    private static final class Roller {
        private final int[] ahead = new int[MOST_SWITCHES];
        int lastMoves;

        /** The siding that it stops in; NONE: it goes round, and all stands are as ahead. */
        int send(Yard yard, int[] stands, int stuck) {
            System.arraycopy(stands, 0, ahead, 0, MOST_SWITCHES);
            int place = roll(yard, stands, stuck);
            if (place < SIDINGS) {
                return place;
            }
            System.arraycopy(ahead, 0, stands, 0, MOST_SWITCHES);
            return NONE;
        }

        int roundOf(Yard yard, int[] stands) {
            int first = roll(yard, stands, NONE);
            int place = first;
            System.arraycopy(stands, 0, ahead, 0, MOST_SWITCHES);
            for (int p = 1; p <= MOST_MOVES && place >= SIDINGS; p++) {
                place = yard.pass(place - SIDINGS, stands, NONE);
                if (place == first && isAsAhead(stands)) {
                    return p;
                }
            }
            return NONE;
        }

        private int roll(Yard yard, int[] stands, int stuck) {
            int place = HUMP;
            lastMoves = 0;
            while (place >= SIDINGS && lastMoves < MOST_MOVES) {
                place = yard.pass(place - SIDINGS, stands, stuck);
                lastMoves++;
            }
            return place;
        }

        private boolean isAsAhead(int[] stands) {
            for (int i = 0; i < MOST_SWITCHES; i++) {
                if (stands[i] != ahead[i]) {
                    return false;
                }
            }
            return true;
        }
    }

    /**
     * The stands by which wanted trucks come true alone. A stand is chosen when a truck first comes to its switch:
     * switches that none comes to stay as they are now, as any other stand would only be one more that differs.
     */
    private static final class Beginning {
        /** The stands of the chosen switches after each number of choices, as trucks turned them. */
        private final int[][] standsAt = new int[PLANNED_SWITCHES + 1][MOST_SWITCHES];
        private final int[] chosen = new int[MOST_SWITCHES];
        final int[] best = new int[MOST_SWITCHES];
        int fewest;
        private Yard yard;
        private int[] now;
        private int[] wanted;
        private int wantedCount;

        boolean search(Yard yard, int[] now, int[] wanted, int wantedCount) {
            this.yard = yard;
            this.now = now;
            this.wanted = wanted;
            this.wantedCount = wantedCount;
            fewest = MOST_SWITCHES + 1;
            System.arraycopy(now, 0, chosen, 0, MOST_SWITCHES);
            follow(0, 0, 0, 0, HUMP, 0);
            return fewest <= MOST_SWITCHES;
        }

        private void follow(int choices, int chosenBits, int differing, int fromTruck, int fromPlace, int fromMoves) {
            int[] stands = standsAt[choices];
            int truck = fromTruck;
            int place = fromPlace;
            int moves = fromMoves;
            for (int step = 0; step < MOST_WANTED * (MOST_MOVES + 1); step++) {
                if (place < SIDINGS) {
                    if (place != wanted[truck]) {
                        return;
                    }
                    truck++;
                    if (truck >= wantedCount) {
                        keepIfBetter(differing);
                        return;
                    }
                    place = HUMP;
                    moves = 0;
                } else if (moves >= MOST_MOVES || !yard.canLead(place - SIDINGS, wanted[truck])) {
                    return;
                } else if ((chosenBits >> place - SIDINGS & 1) == 0) {
                    choose(choices, chosenBits, differing, truck, place, moves);
                    return;
                } else {
                    place = yard.pass(place - SIDINGS, stands, NONE);
                    moves++;
                }
            }
        }

        private void choose(int choices, int chosenBits, int differing, int truck, int place, int moves) {
            int i = place - SIDINGS;
            if (choices + 1 >= standsAt.length) {
                return;
            }
            int count = yard.points[i].standCount();
            for (int stand = 0; stand < count; stand++) {
                int more = stand == now[i] ? differing : differing + 1;
                if (more <= fewest) {
                    chosen[i] = stand;
                    System.arraycopy(standsAt[choices], 0, standsAt[choices + 1], 0, MOST_SWITCHES);
                    standsAt[choices + 1][i] = stand;
                    follow(choices + 1, chosenBits | 1 << i, more, truck, place, moves);
                }
            }
            chosen[i] = now[i];
        }

        private void keepIfBetter(int differing) {
            if (differing < fewest || differing == fewest && isChosenFirst()) {
                fewest = differing;
                System.arraycopy(chosen, 0, best, 0, MOST_SWITCHES);
            }
        }

        private boolean isChosenFirst() {
            for (int i = 0; i < MOST_SWITCHES; i++) {
                if (chosen[i] != best[i]) {
                    return chosen[i] < best[i];
                }
            }
            return false;
        }
    }

    /**
     * The fewest throws by hand. Nothing is lost by throwing a switch only right ahead of a truck that comes to it,
     * so throws are tried at the switch that a truck is at; costs are kept for each such switch and all stands.
     */
    private static final class Throwing {
        private static final int FAR = 100;
        private byte[] costs = new byte[0];
        /** Of each switch: its row of costs, and what one stand more adds to the code of all stands. */
        private final int[] rowOf = new int[MOST_SWITCHES];
        private final int[] weights = new int[MOST_SWITCHES];
        private Yard yard;
        private int codes;

        int fewest(Yard yard, int[] now, int[] wanted, int wantedCount) {
            this.yard = yard;
            int start = encode(now);
            int rows = yard.order.length + 1;
            makeRoom(rows * codes);
            Arrays.fill(costs, (byte) FAR);
            offer(0, start, 0);
            for (int truck = 0; truck < wantedCount; truck++) {
                for (int row = 0; row < rows - 1; row++) {
                    leave(row, wanted[truck]);
                }
                startNext(rows - 1);
            }
            int fewest = FAR;
            for (int code = 0; code < codes; code++) {
                fewest = Math.min(fewest, costs[code]);
            }
            return fewest < FAR ? fewest : NONE;
        }

        /** Lays out the codes of stands, of the switches that a truck can come to: the code of these stands. */
        private int encode(int[] now) {
            codes = 1;
            int start = 0;
            for (int row = 0; row < yard.order.length; row++) {
                int i = yard.order[row];
                rowOf[i] = row;
                weights[i] = codes;
                start += now[i] * codes;
                codes *= yard.points[i].standCount();
            }
            return start;
        }

        /** Rows grow by twice at least, so that all that was ever made stays small. */
        private void makeRoom(int needed) {
            if (costs.length < needed) {
                costs = new byte[Math.max(needed, 2 * costs.length)];
            }
        }

        /** Trucks at the switch of a row go on, thrown or not, those that stop elsewhere than wanted are lost. */
        private void leave(int row, int goal) {
            int i = yard.order[row];
            Point point = yard.points[i];
            int count = point.standCount();
            int weight = weights[i];
            if (weight < 1 || count < 1) {
                return;
            }
            for (int code = 0; code < codes; code++) {
                int cost = costs[row * codes + code];
                if (cost < FAR) {
                    costs[row * codes + code] = FAR;
                    int stand = code / weight % count;
                    int others = code - stand * weight;
                    goOn(i, stand, others, cost, goal);
                    for (int way = 0; way < point.ways.length; way++) {
                        goOn(i, point.firstStandAt(way), others, cost + 1, goal);
                    }
                }
            }
        }

        private void goOn(int i, int stand, int others, int cost, int goal) {
            int place = yard.placeFrom(i, stand);
            int code = others + yard.standAfter(i, stand) * weights[i];
            if (place == goal) {
                offer(yard.order.length, code, cost);
            } else if (place >= SIDINGS && yard.canLead(place - SIDINGS, goal)) {
                offer(rowOf[place - SIDINGS], code, cost);
            }
        }

        private void offer(int row, int code, int cost) {
            int at = row * codes + code;
            if (at >= 0 && at < costs.length && cost < costs[at]) {
                costs[at] = (byte) cost;
            }
        }

        /** Those that stand in the wanted siding leave their costs to the next truck, at the first switch. */
        private void startNext(int arrived) {
            for (int code = 0; code < codes; code++) {
                costs[code] = costs[arrived * codes + code];
                costs[arrived * codes + code] = FAR;
            }
        }
    }

    /** Where the next trucks would stop if one switch that can turn was stuck, and if none was. */
    private static final class Suspects {
        private final Roller roller;
        private final int[][] stops = new int[MOST_SWITCHES + 1][MOST_TOLD];
        private final int[] stands = new int[MOST_SWITCHES];
        private final int[] suspected = new int[MOST_SWITCHES];
        private int count;

        Suspects(Roller roller) {
            this.roller = roller;
        }

        void watch(Yard yard, int[] now) {
            count = 0;
            for (int i : yard.order) {
                if (yard.points[i].canTurn()) {
                    suspected[count] = i;
                    count++;
                    fillStops(yard, now, i, stops[i]);
                }
            }
            fillStops(yard, now, NONE, stops[NONE_STUCK]);
        }

        int trucksToNotice() {
            int most = 1;
            for (int k = 0; k < count; k++) {
                most = Math.max(most, firstDifference(stops[suspected[k]], stops[NONE_STUCK]));
            }
            return most;
        }

        int trucksToTellApart() {
            int most = 1;
            for (int k = 0; k < count; k++) {
                for (int other = 0; other < k; other++) {
                    most = Math.max(most, firstDifference(stops[suspected[k]], stops[suspected[other]]));
                }
            }
            return most;
        }

        int orNone(int trucks) {
            return trucks <= MOST_TOLD ? trucks : NONE;
        }

        private void fillStops(Yard yard, int[] now, int stuck, int[] row) {
            System.arraycopy(now, 0, stands, 0, MOST_SWITCHES);
            Arrays.fill(row, NONE);
            for (int n = 0; n < row.length; n++) {
                row[n] = roller.send(yard, stands, stuck);
                if (row[n] == NONE) {
                    // It leaves all stands as they are, so all later ones go round too.
                    return;
                }
            }
        }

        /** The number of trucks that first shows it; MOST_TOLD and one, if none does. */
        private static int firstDifference(int[] one, int[] other) {
            for (int n = 0; n < MOST_TOLD; n++) {
                if (one[n] != other[n]) {
                    return n + 1;
                }
            }
            return MOST_TOLD + 1;
        }
    }
}
