import java.util.Arrays;

/**
 * Routes chosen by policy: domains linked as customers, peers and providers choose ways to domain 0.
 * The document (DOC.md) says each call as a numbered promise; its words in capitals are used here in
 * plain letters.
 *
 * <p>Every row is made with the object and used again, since all calls of a run share one room.
 */
public final class PolicyRoutes {
    public static final int BAD = -1, NOT = -2, FULL = -3, NONE = -4, NULL = -11, CAST = -12, INDEX = -13, SIZE = -14;

    /** The most domains there may be; rows over domains have this length whatever n is. */
    private static final int MOST = 6;
    /** Stands for a next domain where there is none; no domain has this figure. */
    private static final int NO_NEXT = 9;
    /** Above every way as a number. */
    private static final int MILLION = 1000000;
    private static final int CUSTOMER = 1;
    private static final int PICKS = 1;
    private static final int SENDS = 2;
    private static final int REST_TURNS = 40;
    private static final int DRIFT_TURNS = 40;

    private final World world = new World();
    private final Past past = new Past();
    private final World keptWorld = new World();
    private final Past keptPast = new Past();
    private boolean kept = false;
    /** What is chosen in mind; every call that uses it fills it first. */
    private final Choice choice = new Choice();
    private final Ways ways = new Ways();
    private final Rings rings = new Rings();
    private final Rests rests = new Rests();
    private final Foresight foresight = new Foresight();
    private final Tape tape = new Tape();
    private final Sheets sheets = new Sheets();
    private final int[] nextOf = new int[MOST];

    public PolicyRoutes() {
    }

    // ---- 1 domains

    public int link(int a, int b, int sort) {
        if (!world.arePair(a, b) || sort < 0 || sort > 3) {
            return BAD;
        }
        int was = world.sortOf(a, b);
        if (was == sort && !world.isCut(a, b)) {
            return NOT;
        }
        past.keep(world);
        world.setLink(a, b, sort);
        return was;
    }

    public int cut(int a, int b) {
        if (!world.arePair(a, b)) {
            return BAD;
        }
        if (world.sortOf(a, b) == 0) {
            return NONE;
        }
        past.keep(world);
        world.turnCut(a, b);
        return world.isCut(a, b) ? 1 : 0;
    }

    public int like(int a, int b, int v) {
        if (!world.arePair(a, b) || v < 0 || v > 9) {
            return BAD;
        }
        int was = world.likingOf(a, b);
        if (was == v) {
            return NOT;
        }
        past.keep(world);
        world.setLiking(a, b, v);
        return was;
    }

    public int manner(int d, int m) {
        if (!world.isDomain(d) || m < 0 || m > 3) {
            return BAD;
        }
        int was = world.mannerOf(d);
        if (was == m) {
            return NOT;
        }
        past.keep(world);
        world.setManner(d, m);
        return was;
    }

    public int bar(int d, int set) {
        if (!world.isDomain(d) || !world.areOthers(d, set)) {
            return BAD;
        }
        int was = world.barsOf(d);
        if (was == set) {
            return NOT;
        }
        past.keep(world);
        world.setBars(d, set);
        return was;
    }

    public int domains(int v) {
        if (v < 2 || v > MOST) {
            return BAD;
        }
        int was = world.size();
        if (was == v) {
            return NOT;
        }
        past.keep(world);
        world.resize(v);
        return was;
    }

    public int told(int a, int b, int what) {
        if (!world.arePair(a, b) || what < 0 || what > 2) {
            return BAD;
        }
        if (what == 0) {
            return world.sortOf(a, b);
        }
        if (what == 1) {
            return world.isCut(a, b) ? 1 : 0;
        }
        return world.likingOf(a, b);
    }

    public int own(int d, int what) {
        if (!world.isDomain(d)) {
            return BAD;
        }
        switch (what) {
            case 0:
                return world.mannerOf(d);
            case 1:
                return world.barsOf(d);
            case 2:
                ways.freshen(world);
                return ways.countOf(d);
            case 3:
                return world.chosenBy(d);
            case 4:
                choice.load(world);
                return choice.best(world, d);
            default:
                return BAD;
        }
    }

    public int way(int d, int k) {
        if (!world.isDomain(d) || k < 0) {
            return BAD;
        }
        ways.freshen(world);
        return ways.numberAt(d, k);
    }

    public int why(int way) {
        if (way < 0 || way >= MILLION || way % 10 != 0) {
            return BAD;
        }
        int length = figuresOf(way);
        int rest = way;
        for (int k = 0; k < length; k++) {
            if (rest % 10 >= world.size()) {
                return BAD;
            }
            rest = rest / 10;
        }
        return reasonAgainst(way, length);
    }

    public int count(int what) {
        switch (what) {
            case 0:
                return world.size();
            case 1:
                return world.countLinks(false);
            case 2:
                return world.countLinks(true);
            case 3:
                return world.choosers();
            case 4:
                return discontent();
            case 5:
                ways.freshen(world);
                return ways.countAll();
            case 6:
                return stableOnes();
            case 7:
                return past.known();
            default:
                return BAD;
        }
    }

    public int type(int letter) {
        if (letter < 32 || letter > 126) {
            return BAD;
        }
        return tape.append(letter);
    }

    public int read() {
        int answer = tape.parse(world.size());
        if (answer >= 0) {
            past.keep(world);
            tape.tellTo(world);
        }
        tape.empty();
        return answer;
    }

    // ---- 2 choices

    public int turn() {
        if (discontent() != 0) {
            past.keep(world);
        }
        return turnAll();
    }

    public int choose(int d) {
        if (!world.isDomain(d)) {
            return BAD;
        }
        choice.load(world);
        if (choice.best(world, d) != world.chosenBy(d)) {
            past.keep(world);
        }
        return chooseAnew(d);
    }

    public int rest() {
        if (discontent() == 0) {
            return 0;
        }
        past.keep(world);
        for (int turns = 1; turns <= REST_TURNS; turns++) {
            turnAll();
            if (discontent() == 0) {
                return turns;
            }
        }
        return NONE;
    }

    public int clear() {
        int had = Integer.bitCount(world.choosers()) - 1;
        if (had == 0) {
            return NOT;
        }
        past.keep(world);
        world.forgetChosen();
        return had;
    }

    public int foreseen(int what) {
        if (what < 0 || what > 2) {
            return BAD;
        }
        choice.load(world);
        foresight.look(world, choice);
        if (what == 1) {
            return foresight.period;
        }
        if (what == 0 && foresight.period != 1) {
            return NONE;
        }
        return foresight.begin;
    }

    public int stable(int k, int d) {
        if (k < 0 || !world.isDomain(d)) {
            return BAD;
        }
        if (k >= stableOnes()) {
            return NOT;
        }
        rests.nextsOf(k, world.size(), nextOf);
        choice.follow(nextOf, world.size());
        return choice.wayOf(d);
    }

    public int ring(int what) {
        if (what < 0 || what > 3) {
            return BAD;
        }
        ways.freshen(world);
        rings.freshen(world, ways);
        switch (what) {
            case 0:
                return rings.shortest > 0 ? 1 : 0;
            case 1:
                return rings.shortest > 0 ? rings.shortest : NONE;
            case 2:
                return rings.members;
            default:
                return rings.least;
        }
    }

    public long fail(int d, int c, int what) {
        if (!world.isDomain(d) || c < 0 || c > 10 || what < 0 || what > 1) {
            return BAD;
        }
        ways.freshen(world);
        long above = Odds.lasting(ways, d, c, 0, 0, Odds.LINKS);
        long below = Odds.power(Odds.LINKS);
        long common = Odds.commonDivisor(above, below);
        if (common < 1) {
            return BAD;
        }
        return (what == 0 ? above : below) / common;
    }

    public int seen(int d) {
        if (!world.isDomain(d)) {
            return BAD;
        }
        int was = world.mannerOf(d);
        int set = 0;
        for (int m = 0; m <= 3; m++) {
            world.setManner(d, m);
            if (discontent() == 0) {
                set |= 1 << m;
            }
        }
        world.setManner(d, was);
        return set;
    }

    // ---- 3 what is done

    public int drift(int n) {
        if (n < 1 || n > DRIFT_TURNS) {
            return BAD;
        }
        for (int k = 0; k < n; k++) {
            past.keep(world);
            driftOnce();
        }
        return world.choosers();
    }

    public int undo() {
        if (past.known() == 0) {
            return NONE;
        }
        past.bringBack(world);
        return past.known();
    }

    public int seed(int v) {
        if (v < 0) {
            return BAD;
        }
        int was = world.draw();
        world.setDraw(v);
        return was;
    }

    public int image() {
        keptWorld.become(world);
        keptPast.become(past);
        kept = true;
        return 1;
    }

    public int restore() {
        if (!kept) {
            return NONE;
        }
        world.become(keptWorld);
        past.become(keptPast);
        return 1;
    }

    // ---- sheets

    public int tried(int sheet, int lane, int i) {
        int n = world.size();
        int refused = sheets.refusal(sheet, lane, i, n - 1);
        if (refused != 0) {
            return refused;
        }
        for (int d = 1; d < n; d++) {
            long next = sheets.itemAt(sheet, i + d - 1);
            if ((next < 0 || next >= n) && next != NO_NEXT) {
                return NOT;
            }
            nextOf[d] = (int) next;
        }
        choice.follow(nextOf, n);
        return choice.discontents(world);
    }

    public int film(int sheet, int lane, int i) {
        int n = world.size();
        int refused = sheets.refusal(sheet, lane, i, n - 1);
        if (refused != 0) {
            return refused;
        }
        choice.load(world);
        for (int d = 1; d < n; d++) {
            sheets.setItem(sheet, i + d - 1, choice.secondOf(d));
        }
        return n - 1;
    }

    public int sheet(int sheet, int lane, int n) {
        if (!Sheets.isSheet(sheet) || !Sheets.isLane(lane) || n > Sheets.ITEMS) {
            return BAD;
        }
        if (n < 0) {
            return SIZE;
        }
        sheets.renew(sheet, lane, n);
        return n;
    }

    public int drop(int sheet) {
        if (!Sheets.isSheet(sheet)) {
            return BAD;
        }
        if (sheets.isMissing(sheet)) {
            return NULL;
        }
        int had = sheets.lengthOf(sheet);
        sheets.lose(sheet);
        return had;
    }

    public int item(int sheet, int lane, int i, long v) {
        int refused = sheets.refusal(sheet, lane, i, 1);
        if (refused != 0) {
            return refused;
        }
        sheets.setItem(sheet, i, v);
        return 1;
    }

    public int copy(int from, int i, int to, int j, int n) {
        if (!Sheets.isSheet(from) || !Sheets.isSheet(to)) {
            return BAD;
        }
        if (sheets.isMissing(from) || sheets.isMissing(to)) {
            return NULL;
        }
        if (sheets.laneOf(from) != sheets.laneOf(to)) {
            return CAST;
        }
        if (!sheets.holds(from, i, n) || !sheets.holds(to, j, n)) {
            return INDEX;
        }
        sheets.move(from, i, to, j, n);
        return n;
    }

    // ---- what several calls share

    /** The set of domains that are not content now; leaves what is chosen in choice. */
    private int discontent() {
        choice.load(world);
        return choice.discontents(world);
    }

    private int stableOnes() {
        ways.freshen(world);
        rests.freshen(world, choice, ways.version());
        return rests.found();
    }

    private int turnAll() {
        choice.load(world);
        int otherwise = choice.advance(world);
        choice.store(world);
        return otherwise;
    }

    private int chooseAnew(int d) {
        choice.load(world);
        int best = choice.best(world, d);
        if (best == world.chosenBy(d)) {
            return 0;
        }
        world.setChosen(d, best);
        return 1;
    }

    private void driftOnce() {
        int draw = (world.draw() * 1103515245 + 12345) & 0x7fffffff;
        world.setDraw(draw);
        int n = Math.max(2, world.size());
        int x = draw / 65536;
        int y = x / 8;
        int a = y % n;
        int b = y / 8 % n;
        int v = y / 64;
        switch (x % 8) {
            case 3:
                world.setManner(a, v % 4);
                break;
            case 5:
            case 6:
                turnAll();
                break;
            case 7:
                chooseAnew(a);
                break;
            default:
                if (a != b) {
                    driftPair(x % 8, a, b, v);
                }
                break;
        }
    }

    private void driftPair(int what, int a, int b, int v) {
        switch (what) {
            case 0:
                world.setLink(a, b, v % 4);
                break;
            case 1:
                if (world.sortOf(a, b) != 0) {
                    world.turnCut(a, b);
                }
                break;
            case 2:
                world.setLiking(a, b, v % 10);
                break;
            default:
                world.setBars(a, world.barsOf(a) ^ 1 << b);
                break;
        }
    }

    /** Goes from the last figure but one back to the first; 0, if no domain has a reason. */
    private int reasonAgainst(int way, int length) {
        int rest = way / 10;
        int behind = 1;
        int next = 0;
        int second = NO_NEXT;
        for (int ahead = length - 2; ahead >= 0; ahead--) {
            int d = rest % 10;
            int reason = reasonOf(d, next, behind, second);
            if (reason != 0) {
                return 100 * reason + 10 * d + ahead;
            }
            behind |= 1 << d;
            second = next;
            next = d;
            rest = rest / 10;
        }
        return 0;
    }

    private int reasonOf(int d, int next, int behind, int second) {
        if (!world.areJoined(d, next)) {
            return 1;
        }
        if ((behind & 1 << d) != 0) {
            return 2;
        }
        if ((behind & world.barsOf(d)) != 0) {
            return 3;
        }
        return world.lets(next, second, d) ? 0 : 4;
    }

    /** How many figures a number has that is below a million. */
    private static int figuresOf(int way) {
        int length = 1;
        int rest = way / 10;
        for (int k = 1; k < MOST && rest > 0; k++) {
            length++;
            rest = rest / 10;
        }
        return length;
    }

    /** All that can be undone or kept as an image, in one row of cells so that it is copied at once. */
    private static final class World {
        static final int N = 0, MANNER = 1, BARS = 7, SORT = 13, CUT = 49, LIKE = 85;
        /** Cells ahead of this one decide which ways are permitted; the others don't. */
        static final int POLICY = 121;
        static final int CHOSEN = 121, DRAW = 127, CELLS = 128;

        final int[] cells = new int[CELLS];

        World() {
            cells[N] = 4;
            cells[DRAW] = 1;
            for (int d = 0; d < MOST; d++) {
                cells[MANNER + d] = 3;
                cells[CHOSEN + d] = d == 0 ? 0 : NONE;
            }
        }

        void become(World other) {
            System.arraycopy(other.cells, 0, cells, 0, CELLS);
        }

        int size() {
            return cells[N];
        }

        boolean isDomain(int d) {
            return d >= 0 && d < cells[N];
        }

        boolean arePair(int a, int b) {
            return isDomain(a) && isDomain(b) && a != b;
        }

        boolean areOthers(int d, int set) {
            return set >= 0 && set < 1 << cells[N] && (set & 1 << d) == 0;
        }

        int sortOf(int a, int b) {
            return cells[SORT + a * MOST + b];
        }

        boolean isCut(int a, int b) {
            return cells[CUT + a * MOST + b] != 0;
        }

        boolean areJoined(int a, int b) {
            return sortOf(a, b) != 0 && !isCut(a, b);
        }

        void setLink(int a, int b, int sort) {
            cells[SORT + a * MOST + b] = sort;
            cells[SORT + b * MOST + a] = sort == 0 ? 0 : 4 - sort;
            setCut(a, b, 0);
        }

        void turnCut(int a, int b) {
            setCut(a, b, isCut(a, b) ? 0 : 1);
        }

        private void setCut(int a, int b, int v) {
            cells[CUT + a * MOST + b] = v;
            cells[CUT + b * MOST + a] = v;
        }

        int likingOf(int a, int b) {
            return cells[LIKE + a * MOST + b];
        }

        void setLiking(int a, int b, int v) {
            cells[LIKE + a * MOST + b] = v;
        }

        int mannerOf(int d) {
            return cells[MANNER + d];
        }

        void setManner(int d, int m) {
            cells[MANNER + d] = m;
        }

        int barsOf(int d) {
            return cells[BARS + d];
        }

        void setBars(int d, int set) {
            cells[BARS + d] = set;
        }

        int chosenBy(int d) {
            return cells[CHOSEN + d];
        }

        void setChosen(int d, int way) {
            cells[CHOSEN + d] = way;
        }

        int draw() {
            return cells[DRAW];
        }

        void setDraw(int v) {
            cells[DRAW] = v;
        }

        void forgetChosen() {
            for (int d = 1; d < MOST; d++) {
                setChosen(d, NONE);
            }
        }

        void loseLinks() {
            Arrays.fill(cells, SORT, LIKE, 0);
        }

        /** Domains beyond the new end become as at first, so that growing again finds them so. */
        void resize(int n) {
            cells[N] = n;
            for (int d = n; d < MOST; d++) {
                setManner(d, 3);
                setBars(d, 0);
                for (int e = 0; e < MOST; e++) {
                    setLink(d, e, 0);
                    setLiking(d, e, 0);
                    setLiking(e, d, 0);
                }
            }
            for (int d = 0; d < n; d++) {
                setBars(d, barsOf(d) & (1 << n) - 1);
            }
            forgetChosen();
        }

        int countLinks(boolean cutOnly) {
            int links = 0;
            for (int a = 0; a < MOST; a++) {
                for (int b = a + 1; b < MOST; b++) {
                    if (sortOf(a, b) != 0 && (!cutOnly || isCut(a, b))) {
                        links++;
                    }
                }
            }
            return links;
        }

        /** The set of domains that have chosen a way. */
        int choosers() {
            int set = 0;
            for (int d = 0; d < cells[N]; d++) {
                if (chosenBy(d) != NONE) {
                    set |= 1 << d;
                }
            }
            return set;
        }

        /** Whether e lets a way of its own, with that second domain, go to d; 0 alone has no second one. */
        boolean lets(int e, int second, int d) {
            int sorts = SORT + e * MOST;
            return second == NO_NEXT || (cells[MANNER + e] & SENDS) == 0
                    || cells[sorts + d] == CUSTOMER || cells[sorts + second] == CUSTOMER;
        }

        /** Whether d takes a way of e that has these members and that second domain. */
        boolean takes(int d, int e, int members, int second) {
            int pair = d * MOST + e;
            return cells[SORT + pair] != 0 && cells[CUT + pair] == 0
                    && (members & (1 << d | cells[BARS + d])) == 0 && lets(e, second, d);
        }

        /** A number that is less for a better way of d by e; the way is its rest by a million. */
        int rankOf(int d, int e, int length, int number) {
            int pair = d * MOST + e;
            int kind = (cells[MANNER + d] & PICKS) == 0 ? 0 : cells[SORT + pair];
            return ((kind * 10 + 9 - cells[LIKE + pair]) * 8 + length) * MILLION + number;
        }
    }

    /** The worlds ahead of the latest six things done. */
    private static final class Past {
        static final int MOST_KNOWN = 6;

        private final int[] shots = new int[MOST_KNOWN * World.CELLS];
        private int known = 0;
        private int next = 0;

        int known() {
            return known;
        }

        void keep(World world) {
            System.arraycopy(world.cells, 0, shots, next * World.CELLS, World.CELLS);
            next = (next + 1) % MOST_KNOWN;
            known = Math.min(known + 1, MOST_KNOWN);
        }

        void bringBack(World world) {
            if (known == 0) {
                return;
            }
            known--;
            next = (next + MOST_KNOWN - 1) % MOST_KNOWN;
            System.arraycopy(shots, next * World.CELLS, world.cells, 0, World.CELLS);
        }

        void become(Past other) {
            System.arraycopy(other.shots, 0, shots, 0, shots.length);
            known = other.known;
            next = other.next;
        }
    }

    /** A way, or none, for each domain, its figures taken apart once for all who look at it. */
    private static final class Choice {
        private final int[] way = new int[MOST];
        private final int[] members = new int[MOST];
        private final int[] second = new int[MOST];
        private final int[] length = new int[MOST];
        private final int[] coming = new int[MOST];

        void load(World world) {
            for (int d = 0; d < MOST; d++) {
                put(d, world.chosenBy(d));
            }
        }

        void store(World world) {
            for (int d = 0; d < MOST; d++) {
                world.setChosen(d, way[d]);
            }
        }

        /** All ways by next domains; none for those from which these don't lead to 0. */
        void follow(int[] nextOf, int n) {
            put(0, 0);
            for (int d = 1; d < MOST; d++) {
                putNone(d);
                if (d < n) {
                    walk(d, nextOf);
                }
            }
        }

        private void walk(int d, int[] nextOf) {
            int number = d;
            int set = 1 << d;
            int at = d;
            int figures = 1;
            while (figures < MOST && at > 0) {
                at = nextOf[at];
                if (at < 0 || at >= MOST) {
                    return;
                }
                number = number * 10 + at;
                set |= 1 << at;
                figures++;
            }
            if (at == 0) {
                way[d] = number;
                members[d] = set;
                second[d] = nextOf[d];
                length[d] = figures;
            }
        }

        private void putNone(int d) {
            way[d] = NONE;
            members[d] = 0;
            second[d] = NO_NEXT;
            length[d] = 0;
        }

        private void put(int d, int number) {
            putNone(d);
            if (number < 0) {
                return;
            }
            int figures = figuresOf(number);
            int rest = number;
            for (int k = 0; k < figures; k++) {
                members[d] |= 1 << rest % 10;
                if (k == figures - 2) {
                    second[d] = rest % 10;
                }
                rest = rest / 10;
            }
            way[d] = number;
            length[d] = figures;
        }

        int wayOf(int d) {
            return way[d];
        }

        int secondOf(int d) {
            return second[d];
        }

        /** The way that a domain would choose, or NONE. */
        int best(World world, int d) {
            if (d == 0) {
                return 0;
            }
            int least = Integer.MAX_VALUE;
            for (int e = 0; e < world.size(); e++) {
                if (way[e] != NONE && world.takes(d, e, members[e], second[e])) {
                    least = Math.min(least, world.rankOf(d, e, length[e] + 1, together(d, e)));
                }
            }
            return least == Integer.MAX_VALUE ? NONE : least % MILLION;
        }

        private int together(int d, int e) {
            int number = d;
            for (int k = 0; k < length[e]; k++) {
                number = number * 10;
            }
            return number + way[e];
        }

        int discontents(World world) {
            int set = 0;
            for (int d = 1; d < world.size(); d++) {
                if (way[d] != best(world, d)) {
                    set |= 1 << d;
                }
            }
            return set;
        }

        /** A turn: how many have chosen otherwise. */
        int advance(World world) {
            int otherwise = 0;
            int n = world.size();
            for (int d = 0; d < n; d++) {
                coming[d] = best(world, d);
            }
            for (int d = 0; d < n; d++) {
                if (coming[d] != way[d]) {
                    otherwise++;
                    put(d, coming[d]);
                }
            }
            return otherwise;
        }
    }

    /** Turns gone on in mind till all is chosen as it was before. */
    private static final class Foresight {
        static final int TURNS = 60;

        int begin = NONE;
        int period = NONE;
        private final int[] chosen = new int[(TURNS + 1) * MOST];

        void look(World world, Choice choice) {
            begin = NONE;
            period = NONE;
            note(choice, 0);
            for (int j = 1; j <= TURNS; j++) {
                choice.advance(world);
                note(choice, j);
                int i = earlier(j);
                if (i >= 0) {
                    begin = i;
                    period = j - i;
                    return;
                }
            }
        }

        private void note(Choice choice, int j) {
            for (int d = 0; d < MOST; d++) {
                chosen[j * MOST + d] = choice.wayOf(d);
            }
        }

        private int earlier(int j) {
            for (int i = 0; i < j; i++) {
                if (areAlike(i, j)) {
                    return i;
                }
            }
            return -1;
        }

        private boolean areAlike(int i, int j) {
            for (int d = 0; d < MOST; d++) {
                if (chosen[i * MOST + d] != chosen[j * MOST + d]) {
                    return false;
                }
            }
            return true;
        }
    }

    /** All permitted ways, worked out again only when the cells that decide them have changed. */
    private static final class Ways {
        /** Six domains, all linked: 65 ways for each but 0. */
        static final int MOST_OWN = 65;
        static final int MOST_WAYS = 5 * MOST_OWN + 1;
        /** Ranks less than this much apart tell length and number alone. */
        static final int LENGTHS = 8 * MILLION;

        private final int[] basis = new int[World.POLICY];
        private int version = 0;
        private int all = 0;
        private final int[] owner = new int[MOST_WAYS];
        private final int[] tail = new int[MOST_WAYS];
        private final int[] rank = new int[MOST_WAYS];
        private final int[] members = new int[MOST_WAYS];
        private final int[] links = new int[MOST_WAYS];
        private final int[] place = new int[MOST_WAYS];
        private final int[] owned = new int[MOST];
        private final int[] ranked = new int[MOST * MOST_OWN];

        /** Changes whenever the ways may have; 0 ahead of the first time. */
        int version() {
            return version;
        }

        int countAll() {
            return all;
        }

        int countOf(int d) {
            return owned[d];
        }

        int ownerOf(int w) {
            return owner[w];
        }

        int tailOf(int w) {
            return tail[w];
        }

        int placeOf(int w) {
            return place[w];
        }

        int membersOf(int w) {
            return members[w];
        }

        int numberOf(int w) {
            return rank[w] % MILLION;
        }

        int rankedAt(int d, int k) {
            return ranked[d * MOST_OWN + k];
        }

        int secondOf(int w) {
            return w == 0 ? NO_NEXT : owner[tail[w]];
        }

        /** Whether the way is shorter, or as long and less as a number. */
        boolean isBriefer(int w, int than) {
            return rank[w] % LENGTHS < rank[than] % LENGTHS;
        }

        int numberAt(int d, int k) {
            return k < owned[d] ? numberOf(rankedAt(d, k)) : NONE;
        }

        void freshen(World world) {
            if (version > 0 && isBasis(world)) {
                return;
            }
            System.arraycopy(world.cells, 0, basis, 0, World.POLICY);
            version++;
            all = 0;
            Arrays.fill(owned, 0);
            add(0, -1, 0);
            for (int w = 0; w < all && w < MOST_WAYS; w++) {
                extend(world, w);
            }
            notePlaces();
        }

        private boolean isBasis(World world) {
            for (int k = 0; k < World.POLICY; k++) {
                if (basis[k] != world.cells[k]) {
                    return false;
                }
            }
            return true;
        }

        private void extend(World world, int w) {
            int e = owner[w];
            int second = secondOf(w);
            int length = rank[w] % LENGTHS / MILLION + 1;
            for (int d = 1; d < world.size(); d++) {
                if (world.takes(d, e, members[w], second)) {
                    int number = d * unitAbove(length - 1) + numberOf(w);
                    add(d, w, world.rankOf(d, e, length, number));
                }
            }
        }

        private static int unitAbove(int figures) {
            int unit = 1;
            for (int k = 0; k < figures; k++) {
                unit = unit * 10;
            }
            return unit;
        }

        private void add(int d, int w, int itsRank) {
            if (all >= MOST_WAYS || owned[d] >= MOST_OWN) {
                return;
            }
            owner[all] = d;
            tail[all] = w;
            rank[all] = w < 0 ? MILLION : itsRank;
            members[all] = 1 << d | (w < 0 ? 0 : members[w]);
            links[all] = w < 0 ? 0 : links[w] | 1 << pairOf(d, owner[w]);
            insert(d, all);
            all++;
        }

        private void insert(int d, int w) {
            int at = d * MOST_OWN + owned[d];
            for (; at > d * MOST_OWN && rank[ranked[at - 1]] > rank[w]; at--) {
                ranked[at] = ranked[at - 1];
            }
            ranked[at] = w;
            owned[d]++;
        }

        private void notePlaces() {
            for (int d = 0; d < MOST; d++) {
                for (int k = 0; k < owned[d]; k++) {
                    place[rankedAt(d, k)] = k;
                }
            }
        }

        /** Numbers the pairs of domains 0 .. 14. */
        private static int pairOf(int a, int b) {
            int more = Math.max(a, b);
            return more * (more - 1) / 2 + Math.min(a, b);
        }

        /**
         * A link (a bit) on which a way of d still hangs, if some links are known to hold and some to have
         * failed: 0 if a way has none such, -1 if no way is left. It is of the way that lacks the fewest.
         */
        int linkInDoubt(int d, int held, int failed) {
            int fewest = -1;
            for (int k = 0; k < owned[d]; k++) {
                int of = links[rankedAt(d, k)];
                int open = of & ~held;
                if ((of & failed) == 0 && (fewest < 0 || Integer.bitCount(open) < Integer.bitCount(fewest))) {
                    fewest = open;
                }
                if (fewest == 0) {
                    return 0;
                }
            }
            return fewest < 0 ? -1 : fewest & -fewest;
        }
    }

    /** How likely a way is left when links fail. */
    private static final class Odds {
        /** As many links as six domains can have; those that no way uses don't change the odds. */
        static final int LINKS = 15;
        private static final long[] TENS = {1L, 10L, 100L, 1000L, 10000L, 100000L, 1000000L, 10000000L, 100000000L,
            1000000000L, 10000000000L, 100000000000L, 1000000000000L, 10000000000000L, 100000000000000L,
            1000000000000000L};

        static long power(int k) {
            return k >= 0 && k < TENS.length ? TENS[k] : 0L;
        }

        /** Of ten to the number of links yet open, how many cases leave a way to d. */
        private static long lasting(Ways ways, int d, int c, int held, int failed, int open) {
            int doubt = ways.linkInDoubt(d, held, failed);
            if (doubt == 0) {
                return power(open);
            }
            if (doubt < 0 || open <= 0) {
                return 0L;
            }
            long holds = c == 10 ? 0L : (10 - c) * lasting(ways, d, c, held | doubt, failed, open - 1);
            long fails = c == 0 ? 0L : c * lasting(ways, d, c, held, failed | doubt, open - 1);
            return holds + fails;
        }

        static long commonDivisor(long a, long b) {
            long more = a;
            long less = b;
            for (int k = 0; k < 200 && less > 0; k++) {
                long rest = more % less;
                more = less;
                less = rest;
            }
            return more;
        }
    }

    /** Which permitted ways lead to one another in rings. */
    private static final class Rings {
        private static final int WORDS = 6;

        /** The least length; 0 if there is no ring. */
        int shortest = 0;
        int members = 0;
        int least = NONE;
        private int version = 0;
        private final long[] leads = new long[Ways.MOST_WAYS * WORDS];
        private final long[] live = new long[WORDS];
        private final long[] reached = new long[WORDS];
        private final long[] edge = new long[WORDS];
        private final long[] coming = new long[WORDS];

        void freshen(World world, Ways ways) {
            if (version == ways.version()) {
                return;
            }
            version = ways.version();
            shortest = 0;
            members = 0;
            least = NONE;
            Arrays.fill(leads, 0L);
            Arrays.fill(live, 0L);
            for (int r = 0; r < ways.countAll(); r++) {
                live[r / 64] |= 1L << r % 64;
                if (r > 0) {
                    noteLeading(world, ways, r);
                }
            }
            boolean thinner = true;
            for (int k = 0; k < Ways.MOST_WAYS && thinner; k++) {
                thinner = thinOut();
            }
            measure(ways);
        }

        /** All ways that lead to r: its tail, and what is better than that but doesn't serve r's owner better. */
        private void noteLeading(World world, Ways ways, int r) {
            int s = ways.tailOf(r);
            int u = ways.ownerOf(r);
            int e = ways.ownerOf(s);
            mark(s, r);
            for (int k = 0; k < ways.placeOf(s); k++) {
                int p = ways.rankedAt(e, k);
                boolean goesOn = world.takes(u, e, ways.membersOf(p), ways.secondOf(p));
                if (!goesOn || !ways.isBriefer(p, s)) {
                    mark(p, r);
                }
            }
        }

        private void mark(int from, int to) {
            leads[from * WORDS + to / 64] |= 1L << to % 64;
        }

        /** Takes out ways that lead to none or that none leads to; they are in no ring. Whether there were any. */
        private boolean thinOut() {
            Arrays.fill(coming, 0L);
            boolean thinner = false;
            for (int w = 0; w < Ways.MOST_WAYS; w++) {
                if (has(live, w) && !join(w)) {
                    live[w / 64] &= ~(1L << w % 64);
                    thinner = true;
                }
            }
            for (int k = 0; k < WORDS; k++) {
                thinner = thinner || (live[k] & ~coming[k]) != 0;
                live[k] &= coming[k];
            }
            return thinner;
        }

        private static boolean has(long[] set, int w) {
            return (set[w / 64] >>> w % 64 & 1L) != 0;
        }

        /** Puts all live ones to which w leads to the coming ones; whether there are any. */
        private boolean join(int w) {
            // The words of a set have bits beyond the last way.
            if (w < 0 || w >= Ways.MOST_WAYS) {
                return false;
            }
            long any = 0L;
            for (int k = 0; k < WORDS; k++) {
                long to = leads[w * WORDS + k] & live[k];
                coming[k] |= to;
                any |= to;
            }
            return any != 0L;
        }

        private void measure(Ways ways) {
            for (int w = 0; w < ways.countAll(); w++) {
                int length = has(live, w) ? lengthThrough(w) : 0;
                if (length > 0) {
                    members++;
                    shortest = shortest == 0 ? length : Math.min(shortest, length);
                    least = least == NONE ? ways.numberOf(w) : Math.min(least, ways.numberOf(w));
                }
            }
        }

        /** The length of the shortest ring through a way; 0 if there is none. */
        private int lengthThrough(int w) {
            Arrays.fill(reached, 0L);
            Arrays.fill(edge, 0L);
            edge[w / 64] |= 1L << w % 64;
            for (int length = 1; length <= Ways.MOST_WAYS; length++) {
                if (!spread()) {
                    return 0;
                }
                if (has(edge, w)) {
                    return length;
                }
            }
            return 0;
        }

        /** The edge becomes what it leads to and was not reached; whether there is any. */
        private boolean spread() {
            Arrays.fill(coming, 0L);
            for (int k = 0; k < WORDS; k++) {
                long left = edge[k];
                for (int bits = 0; bits < 64 && left != 0L; bits++) {
                    long lowest = left & -left;
                    join(k * 64 + Long.bitCount(lowest - 1));
                    left ^= lowest;
                }
            }
            long any = 0L;
            for (int k = 0; k < WORDS; k++) {
                edge[k] = coming[k] & ~reached[k];
                reached[k] |= edge[k];
                any |= edge[k];
            }
            return any != 0L;
        }
    }

    /** The stable choices, each as the figures of its next domains, the least number first. */
    private static final class Rests {
        /** So many choices of next domains lead to 0 from each that has one, if there are six domains. */
        private static final int MOST_RESTS = 2117;

        private int version = 0;
        private int found = 0;
        private final int[] figures = new int[MOST_RESTS];
        private final int[] nextOf = new int[MOST];

        int found() {
            return found;
        }

        void freshen(World world, Choice choice, int ofWays) {
            if (version == ofWays) {
                return;
            }
            version = ofWays;
            found = 0;
            search(this, world, choice, 1);
        }

        /** Tries next domains of d in the order of their figures, then those of the domains behind it. */
        private static void search(Rests rests, World world, Choice choice, int d) {
            if (d >= world.size() || d >= MOST) {
                rests.keepIfStable(world, choice);
                return;
            }
            for (int e = 0; e <= NO_NEXT; e++) {
                if (e == NO_NEXT || world.isDomain(e) && world.areJoined(d, e)) {
                    rests.nextOf[d] = e;
                    if (rests.mayLead(d)) {
                        search(rests, world, choice, d + 1);
                    }
                }
            }
        }

        /** Whether each domain up to d that has a next one may yet come to 0. */
        private boolean mayLead(int d) {
            for (int a = 1; a <= d; a++) {
                int at = nextOf[a];
                boolean hasNext = at != NO_NEXT;
                for (int k = 0; k < MOST && at > 0 && at <= d; k++) {
                    at = nextOf[at];
                }
                boolean isLost = at == NO_NEXT || at > 0 && at <= d;
                if (hasNext && isLost) {
                    return false;
                }
            }
            return true;
        }

        private void keepIfStable(World world, Choice choice) {
            choice.follow(nextOf, world.size());
            int number = 0;
            for (int d = 1; d < world.size(); d++) {
                if (choice.wayOf(d) != choice.best(world, d)) {
                    return;
                }
                number = number * 10 + nextOf[d];
            }
            if (found < MOST_RESTS) {
                figures[found] = number;
                found++;
            }
        }

        void nextsOf(int k, int n, int[] nexts) {
            if (k < 0 || k >= found) {
                return;
            }
            int rest = figures[k];
            for (int d = n - 1; d >= 1; d--) {
                nexts[d] = rest % 10;
                rest = rest / 10;
            }
        }
    }

    /** The tape, and the links that a text on it tells. */
    private static final class Tape {
        static final int LETTERS = 80;
        /** What was read last: nothing, a comma, a first figure, a sign, a second figure, a mark for cut. */
        private static final int START = 0, COMMA = 1, FIRST = 2, SIGN = 3, SECOND = 4, MARK = 5;

        private final int[] letters = new int[LETTERS];
        private int size = 0;
        private int state = START;
        private int first = 0;
        private int second = 0;
        private int sort = 0;
        private int links = 0;
        private final int[] sorts = new int[MOST * MOST];
        private final boolean[] cuts = new boolean[MOST * MOST];

        int append(int letter) {
            if (size >= LETTERS) {
                return FULL;
            }
            letters[size] = letter;
            size++;
            return size;
        }

        void empty() {
            size = 0;
        }

        /** How many links the text tells, or -20 less the place of its fault. */
        int parse(int n) {
            state = START;
            links = 0;
            Arrays.fill(sorts, 0);
            for (int at = 0; at < size; at++) {
                if (letters[at] != ' ' && !accepts(letters[at], n)) {
                    return -20 - at;
                }
            }
            boolean mayEnd = state == START || state == SECOND || state == MARK;
            return mayEnd ? links : -20 - size;
        }

        private boolean accepts(int letter, int n) {
            switch (state) {
                case START:
                case COMMA:
                    return acceptsFirst(letter - '0', n);
                case FIRST:
                    return acceptsSign(letter);
                case SIGN:
                    return acceptsSecond(letter - '0', n);
                default:
                    return acceptsBehind(letter);
            }
        }

        private boolean acceptsFirst(int figure, int n) {
            if (figure < 0 || figure >= n) {
                return false;
            }
            first = figure;
            state = FIRST;
            return true;
        }

        private boolean acceptsSign(int letter) {
            sort = letter == '>' ? 1 : letter == '-' ? 2 : letter == '<' ? 3 : 0;
            state = SIGN;
            return sort != 0;
        }

        private boolean acceptsSecond(int figure, int n) {
            if (figure < 0 || figure >= n || figure == first || sorts[first * MOST + figure] != 0) {
                return false;
            }
            second = figure;
            sorts[first * MOST + second] = sort;
            sorts[second * MOST + first] = 4 - sort;
            cuts[first * MOST + second] = false;
            cuts[second * MOST + first] = false;
            links++;
            state = SECOND;
            return true;
        }

        private boolean acceptsBehind(int letter) {
            if (letter == ',') {
                state = COMMA;
                return true;
            }
            if (letter != '!' || state == MARK) {
                return false;
            }
            cuts[first * MOST + second] = true;
            cuts[second * MOST + first] = true;
            state = MARK;
            return true;
        }

        /** The links of the text parsed last become those of the world. */
        void tellTo(World world) {
            world.loseLinks();
            for (int a = 0; a < MOST; a++) {
                for (int b = a + 1; b < MOST; b++) {
                    if (sorts[a * MOST + b] != 0) {
                        world.setLink(a, b, sorts[a * MOST + b]);
                        if (cuts[a * MOST + b]) {
                            world.turnCut(a, b);
                        }
                    }
                }
            }
        }
    }

    /** Rows of one lane each, kept as longs whatever the lane. */
    private static final class Sheets {
        static final int COUNT = 4, ITEMS = 24;
        private static final int MISSING = -1;

        private final int[] lanes = {MISSING, MISSING, MISSING, MISSING};
        private final int[] lengths = new int[COUNT];
        private final long[] items = new long[COUNT * ITEMS];

        static boolean isSheet(int sheet) {
            return sheet >= 0 && sheet < COUNT;
        }

        static boolean isLane(int lane) {
            return lane >= 0 && lane <= 3;
        }

        boolean isMissing(int sheet) {
            return lanes[sheet] == MISSING;
        }

        int laneOf(int sheet) {
            return lanes[sheet];
        }

        int lengthOf(int sheet) {
            return lengths[sheet];
        }

        boolean holds(int sheet, int i, int n) {
            return i >= 0 && n >= 0 && i <= lengths[sheet] && n <= lengths[sheet] - i;
        }

        /** Why n items from i on of a sheet, taken as a row of a lane, can't be had; 0 if they can. */
        int refusal(int sheet, int lane, int i, int n) {
            if (!isSheet(sheet) || !isLane(lane)) {
                return BAD;
            }
            if (isMissing(sheet)) {
                return NULL;
            }
            if (lanes[sheet] != lane) {
                return CAST;
            }
            return holds(sheet, i, n) ? 0 : INDEX;
        }

        void renew(int sheet, int lane, int n) {
            lanes[sheet] = lane;
            lengths[sheet] = n;
            Arrays.fill(items, sheet * ITEMS, (sheet + 1) * ITEMS, 0L);
        }

        void lose(int sheet) {
            lanes[sheet] = MISSING;
            lengths[sheet] = 0;
        }

        long itemAt(int sheet, int i) {
            return items[sheet * ITEMS + i];
        }

        void setItem(int sheet, int i, long v) {
            items[sheet * ITEMS + i] = narrowed(lanes[sheet], v);
        }

        private static long narrowed(int lane, long v) {
            switch (lane) {
                case 0:
                    return (byte) v;
                case 1:
                    return (short) v;
                case 2:
                    return (int) v;
                default:
                    return v;
            }
        }

        void move(int from, int i, int to, int j, int n) {
            System.arraycopy(items, from * ITEMS + i, items, to * ITEMS + j, n);
        }
    }
}
