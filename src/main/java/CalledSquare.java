import java.util.Arrays;

/**
 * Squares called: dancers on twelve spots, calls that rearrange them, rows of calls looked for,
 * a plan judged, and orders told in a text. The document is ../shared/DOC.md.
 *
 * A dancer's spot and facing are held as one number, its place: spot * FACINGS + facing.
 */
public final class CalledSquare {
    public static final int NONE = -1, BAD = -2, NO = -3, FULL = -4;

    private static final int SPOTS = 12;
    private static final int COLUMNS = 4;
    private static final int FACINGS = 4;
    private static final int PLACES = SPOTS * FACINGS;
    private static final int ROW_OF_PLACES = COLUMNS * FACINGS;
    private static final int WANTS = 3;
    private static final int WANT_HELD = 1;
    private static final int WANT_FREE = 2;
    private static final int MOST_DANCERS = 8;
    private static final int MOST_CALLS = 8;
    private static final int MOST_PLANNED = 12;
    private static final int MOST_BYTES = 120;
    private static final int MOST_STATES = 5;
    private static final int BYTE_VALUES = 128;
    private static final int GOALS = 3;
    private static final int GOAL_HOME = 0;
    private static final int GOAL_PAIRED = 1;
    private static final int LONGEST_FOUND = 5;
    private static final int MOST_VARIETY = 5;
    private static final int LONGEST_COUNTED = 4;
    private static final int OF_KINDS = 7;
    private static final int AT_KINDS = 3;
    private static final int TELLS_KINDS = 4;
    private static final int COUNT_KINDS = 7;
    private static final int TOLD_KINDS = 5;
    private static final int PLANNED_KINDS = 2;
    private static final int FAULT_BASE = -10;
    private static final int REFUSED_ORDER_BASE = -1000;
    private static final long DIGEST_START = 2633L;
    private static final long DIGEST_FACTOR = 31L;

    private final Square now = new Square();
    private final History history = new History();
    private final Text text = new Text();
    private final Search search = new Search();
    private final int[] refused = new int[3];

    public CalledSquare() {
    }

    // ---- dancers and calls

    public int dancer(int s, int f) {
        history.prepare(now);
        return settled(now.addDancer(s, f));
    }

    public int call() {
        history.prepare(now);
        return settled(now.addCall());
    }

    public int exchanges(int c, int a, int b) {
        history.prepare(now);
        return settled(now.exchangeGoals(c, a, b));
    }

    public int turns(int c, int s, int t) {
        history.prepare(now);
        return settled(now.setTurn(c, s, t));
    }

    public int wants(int c, int s, int v) {
        history.prepare(now);
        return settled(now.setWant(c, s, v));
    }

    public int joins(int a, int b) {
        history.prepare(now);
        return settled(now.addJoined(a, b));
    }

    public int backwards(int c) {
        history.prepare(now);
        return settled(now.addTurnedBack(c));
    }

    public int gives(int c) {
        history.prepare(now);
        return settled(now.give(c));
    }

    public int home() {
        history.prepare(now);
        return settled(now.sendHome());
    }

    // ---- what is asked

    public int of(int d, int what) {
        return noted(now.askDancer(d, what));
    }

    public int on(int s) {
        return noted(isBelow(s, SPOTS) ? now.whoIsOn(s) : BAD);
    }

    public int at(int c, int s, int what) {
        return noted(now.askSpotOfCall(c, s, what));
    }

    public int tells(int c, int what) {
        return noted(now.askCall(c, what));
    }

    public int finds(int g, int n, int v) {
        return noted(isSearch(g, n, v) ? search.shortest(now, g, n, v) : BAD);
    }

    public int found(int g, int n, int v, int i) {
        if (!isSearch(g, n, v) || i < 0) {
            return noted(BAD);
        }
        return i < search.shortest(now, g, n, v) ? search.callOfRow(i) : NONE;
    }

    public int rows(int g, int n) {
        boolean fine = isBelow(g, GOALS) && isBelow(n, LONGEST_COUNTED + 1);
        return noted(fine ? search.howMany(now, g, n) : BAD);
    }

    public int plans(int c) {
        history.prepare(now);
        return settled(now.addToPlan(c));
    }

    public int scraps() {
        history.prepare(now);
        return settled(now.emptyPlan());
    }

    public int judges() {
        return now.followPlan();
    }

    public int planned(int d, int what) {
        return noted(now.askPlanned(d, what));
    }

    public int count(int what) {
        return noted(now.askCount(what));
    }

    // ---- texts

    public int type(int c) {
        return noted(text.append(c));
    }

    public int clear() {
        return text.empty();
    }

    public int does() {
        int fault = text.firstFault();
        if (fault != NONE) {
            return FAULT_BASE - fault;
        }
        history.prepare(now);
        text.restart();
        int orders = 0;
        while (orders < MOST_BYTES && text.hasMore()) {
            if (!text.readOrder() || doOrder() < 0) {
                history.undo(now);
                return REFUSED_ORDER_BASE - orders;
            }
            orders++;
        }
        history.confirm();
        return orders;
    }

    public int back() {
        return noted(history.takeBack(now));
    }

    public int told(int what) {
        switch (what) {
            case 0:
            case 1:
            case 2:
                return refused[what];
            case 3:
                return text.length;
            case 4:
                return history.kept;
            default:
                return noted(BAD);
        }
    }

    public long digest() {
        long h = DIGEST_START;
        for (int what = 0; what < TOLD_KINDS; what++) {
            h = mixed(h, told(what));
        }
        for (int what = 0; what < COUNT_KINDS; what++) {
            h = mixed(h, now.askCount(what));
        }
        for (int d = 0; d < now.dancers; d++) {
            for (int what = 0; what < OF_KINDS; what++) {
                h = mixed(h, now.askDancer(d, what));
            }
        }
        for (int c = 0; c < now.calls; c++) {
            h = mixedWithCall(h, c);
        }
        for (int i = 0; i < now.planLength; i++) {
            h = mixed(h, now.plan[i]);
        }
        return h;
    }

    private long mixedWithCall(long start, int c) {
        long h = start;
        for (int s = 0; s < SPOTS; s++) {
            for (int what = 0; what < AT_KINDS; what++) {
                h = mixed(h, now.askSpotOfCall(c, s, what));
            }
        }
        for (int what = 0; what < TELLS_KINDS; what++) {
            h = mixed(h, now.askCall(c, what));
        }
        return h;
    }

    private static long mixed(long h, int v) {
        return DIGEST_FACTOR * h + v;
    }

    /** Counts an answer that is a refusal, and hands every answer on. */
    private int noted(int answer) {
        if (answer <= BAD && answer >= FULL) {
            refused[BAD - answer]++;
        }
        return answer;
    }

    /** The end of every call told S: no such call answers below 0 unless it is refused. */
    private int settled(int answer) {
        if (answer >= 0) {
            history.confirm();
        }
        return noted(answer);
    }

    private int doOrder() {
        int[] n = text.numbers;
        switch (text.kind) {
            case 'k':
                return now.addCallThatGoes(text.goes);
            case 'u':
                return now.setTurn(n[0], n[1], n[2]);
            case 'w':
                return now.setWant(n[0], n[1], n[2]);
            case 'd':
                return now.addDancer(n[0], n[1]);
            case 'g':
                return now.give(n[0]);
            case 'p':
                return now.addToPlan(n[0]);
            default:
                return BAD;
        }
    }

    private static boolean isBelow(int value, int bound) {
        return value >= 0 && value < bound;
    }

    private static boolean isSearch(int g, int n, int v) {
        return isBelow(g, GOALS) && isBelow(n, LONGEST_FOUND + 1) && v >= 1 && v <= MOST_VARIETY;
    }

    /** Places that differ by just one facing round are neighbouring spots with one facing. */
    private static boolean arePaired(int place, int other) {
        return Math.abs(place - other) == FACINGS && place / ROW_OF_PLACES == other / ROW_OF_PLACES;
    }

    private static int heldSpots(int[] places, int dancers) {
        int held = 0;
        for (int d = 0; d < dancers; d++) {
            held |= 1 << (places[d] / FACINGS);
        }
        return held;
    }

    /** One call: where each spot goes, its turn, its want. */
    private static final class Call {
        final int[] goes = new int[SPOTS];
        final int[] turn = new int[SPOTS];
        final int[] want = new int[SPOTS];

        void reset() {
            for (int s = 0; s < SPOTS; s++) {
                goes[s] = s;
                turn[s] = 0;
                want[s] = 0;
            }
        }

        void copyFrom(Call other) {
            System.arraycopy(other.goes, 0, goes, 0, SPOTS);
            System.arraycopy(other.turn, 0, turn, 0, SPOTS);
            System.arraycopy(other.want, 0, want, 0, SPOTS);
        }

        boolean canBeJoinedWith(Call second) {
            for (int s = 0; s < SPOTS; s++) {
                int later = second.want[goes[s]];
                if (want[s] != 0 && later != 0 && want[s] != later) {
                    return false;
                }
            }
            return true;
        }

        void becomeJoined(Call first, Call second) {
            for (int s = 0; s < SPOTS; s++) {
                int between = first.goes[s];
                goes[s] = second.goes[between];
                turn[s] = (first.turn[s] + second.turn[between]) % FACINGS;
                want[s] = first.want[s] != 0 ? first.want[s] : second.want[between];
            }
        }

        void becomeTurnedBack(Call forth) {
            for (int s = 0; s < SPOTS; s++) {
                int t = forth.goes[s];
                goes[t] = s;
                turn[t] = (FACINGS - forth.turn[s]) % FACINGS;
                want[t] = forth.want[s];
            }
        }

        int placeBehind(int place) {
            int s = place / FACINGS;
            return goes[s] * FACINGS + (place + turn[s]) % FACINGS;
        }

        int spotsThatWant(int wanted) {
            int spots = 0;
            for (int s = 0; s < SPOTS; s++) {
                if (want[s] == wanted) {
                    spots |= 1 << s;
                }
            }
            return spots;
        }

        boolean fitsOn(int held) {
            int wantedHeld = spotsThatWant(WANT_HELD);
            return (held & wantedHeld) == wantedHeld && (held & spotsThatWant(WANT_FREE)) == 0;
        }

        int spotsThatMove() {
            int moving = 0;
            for (int s = 0; s < SPOTS; s++) {
                moving += goes[s] != s ? 1 : 0;
            }
            return moving;
        }

        int spotsWithWant() {
            return SPOTS - Integer.bitCount(spotsThatWant(0));
        }

        int round() {
            int all = 1;
            int seen = 0;
            for (int s = 0; s < SPOTS; s++) {
                if ((seen >> s & 1) != 0) {
                    continue;
                }
                int length = 0;
                int turned = 0;
                int spot = s;
                while (length < SPOTS && (seen >> spot & 1) == 0) {
                    seen |= 1 << spot;
                    turned += turn[spot];
                    spot = goes[spot];
                    length++;
                }
                all = leastCommonMultiple(all, length * timesToFaceAhead(turned));
            }
            return all;
        }

        private static int timesToFaceAhead(int turned) {
            int left = turned % FACINGS;
            return left == 0 ? 1 : left == 2 ? 2 : FACINGS;
        }

        private static int leastCommonMultiple(int a, int b) {
            for (int times = 1; times < b; times++) {
                if (a * times % b == 0) {
                    return a * times;
                }
            }
            return a * b;
        }
    }

    /** All that a STATE keeps: dancers, calls, the plan, how many calls were given. */
    private static final class Square {
        int dancers;
        final int[] place = new int[MOST_DANCERS];
        final int[] homePlace = new int[MOST_DANCERS];
        int calls;
        final Call[] call = new Call[MOST_CALLS];
        int planLength;
        final int[] plan = new int[MOST_PLANNED];
        final int[] behindPlan = new int[MOST_DANCERS];
        int given;

        Square() {
            for (int c = 0; c < MOST_CALLS; c++) {
                call[c] = new Call();
            }
        }

        void copyFrom(Square other) {
            dancers = other.dancers;
            System.arraycopy(other.place, 0, place, 0, MOST_DANCERS);
            System.arraycopy(other.homePlace, 0, homePlace, 0, MOST_DANCERS);
            calls = other.calls;
            for (int c = 0; c < calls; c++) {
                call[c].copyFrom(other.call[c]);
            }
            planLength = other.planLength;
            System.arraycopy(other.plan, 0, plan, 0, MOST_PLANNED);
            given = other.given;
        }

        int addDancer(int s, int f) {
            if (!isBelow(s, SPOTS) || !isBelow(f, FACINGS) || whoIsOn(s) != NONE || isHome(s)) {
                return BAD;
            }
            if (dancers >= MOST_DANCERS) {
                return FULL;
            }
            place[dancers] = s * FACINGS + f;
            homePlace[dancers] = place[dancers];
            dancers++;
            return dancers - 1;
        }

        int addCall() {
            if (calls >= MOST_CALLS) {
                return FULL;
            }
            // the slot may hold what a call taken back left there
            call[calls].reset();
            calls++;
            return calls - 1;
        }

        int addCallThatGoes(int[] goes) {
            int c = addCall();
            if (c >= 0) {
                System.arraycopy(goes, 0, call[c].goes, 0, SPOTS);
            }
            return c;
        }

        int exchangeGoals(int c, int a, int b) {
            if (!isSpotOfCall(c, a) || !isBelow(b, SPOTS) || a == b) {
                return BAD;
            }
            int[] goes = call[c].goes;
            int before = goes[a];
            goes[a] = goes[b];
            goes[b] = before;
            return goes[a];
        }

        int setTurn(int c, int s, int t) {
            if (!isSpotOfCall(c, s) || !isBelow(t, FACINGS)) {
                return BAD;
            }
            int before = call[c].turn[s];
            call[c].turn[s] = t;
            return before;
        }

        int setWant(int c, int s, int v) {
            if (!isSpotOfCall(c, s) || !isBelow(v, WANTS)) {
                return BAD;
            }
            int before = call[c].want[s];
            call[c].want[s] = v;
            return before;
        }

        int addJoined(int a, int b) {
            if (!isBelow(a, calls) || !isBelow(b, calls)) {
                return BAD;
            }
            if (!call[a].canBeJoinedWith(call[b])) {
                return NO;
            }
            int c = addCall();
            if (c >= 0) {
                call[c].becomeJoined(call[a], call[b]);
            }
            return c;
        }

        int addTurnedBack(int forth) {
            if (!isBelow(forth, calls)) {
                return BAD;
            }
            int c = addCall();
            if (c >= 0) {
                call[c].becomeTurnedBack(call[forth]);
            }
            return c;
        }

        int give(int c) {
            if (!isBelow(c, calls)) {
                return BAD;
            }
            if (!call[c].fitsOn(heldSpots(place, dancers))) {
                return NO;
            }
            given++;
            return move(place, call[c]);
        }

        int sendHome() {
            int away = dancers - howManyAreHome();
            System.arraycopy(homePlace, 0, place, 0, MOST_DANCERS);
            return away;
        }

        int addToPlan(int c) {
            if (!isBelow(c, calls)) {
                return BAD;
            }
            if (planLength >= MOST_PLANNED) {
                return FULL;
            }
            plan[planLength] = c;
            planLength++;
            return planLength;
        }

        int emptyPlan() {
            int before = planLength;
            planLength = 0;
            return before;
        }

        /** Leaves in behindPlan where all stand behind the plan as far as it goes. */
        int followPlan() {
            System.arraycopy(place, 0, behindPlan, 0, MOST_DANCERS);
            for (int i = 0; i < planLength; i++) {
                Call next = call[plan[i]];
                if (!next.fitsOn(heldSpots(behindPlan, dancers))) {
                    return i;
                }
                move(behindPlan, next);
            }
            return NONE;
        }

        int askPlanned(int d, int what) {
            if (!isBelow(d, dancers) || !isBelow(what, PLANNED_KINDS)) {
                return BAD;
            }
            followPlan();
            return what == 0 ? behindPlan[d] / FACINGS : behindPlan[d] % FACINGS;
        }

        int askDancer(int d, int what) {
            if (!isBelow(d, dancers)) {
                return BAD;
            }
            switch (what) {
                case 0:
                    return place[d] / FACINGS;
                case 1:
                    return place[d] % FACINGS;
                case 2:
                    return homePlace[d] / FACINGS;
                case 3:
                    return homePlace[d] % FACINGS;
                case 4:
                    return place[d] == homePlace[d] ? 1 : 0;
                case 5:
                    return partnerOf(d);
                case 6:
                    return isPaired(d) ? 1 : 0;
                default:
                    return BAD;
            }
        }

        int askSpotOfCall(int c, int s, int what) {
            if (!isSpotOfCall(c, s)) {
                return BAD;
            }
            switch (what) {
                case 0:
                    return call[c].goes[s];
                case 1:
                    return call[c].turn[s];
                case 2:
                    return call[c].want[s];
                default:
                    return BAD;
            }
        }

        int askCall(int c, int what) {
            if (!isBelow(c, calls)) {
                return BAD;
            }
            switch (what) {
                case 0:
                    return call[c].fitsOn(heldSpots(place, dancers)) ? 1 : 0;
                case 1:
                    return call[c].spotsThatMove();
                case 2:
                    return call[c].round();
                case 3:
                    return call[c].spotsWithWant();
                default:
                    return BAD;
            }
        }

        int askCount(int what) {
            switch (what) {
                case 0:
                    return dancers;
                case 1:
                    return calls;
                case 2:
                    return howManyAreHome();
                case 3:
                    return howManyPartnersArePaired();
                case 4:
                    return callsThatFit();
                case 5:
                    return planLength;
                case 6:
                    return given;
                default:
                    return BAD;
            }
        }

        int whoIsOn(int s) {
            for (int d = 0; d < dancers; d++) {
                if (place[d] / FACINGS == s) {
                    return d;
                }
            }
            return NONE;
        }

        private boolean isHome(int s) {
            for (int d = 0; d < dancers; d++) {
                if (homePlace[d] / FACINGS == s) {
                    return true;
                }
            }
            return false;
        }

        private boolean isSpotOfCall(int c, int s) {
            return isBelow(c, calls) && isBelow(s, SPOTS);
        }

        private int move(int[] places, Call by) {
            int changed = 0;
            for (int d = 0; d < dancers; d++) {
                int behind = by.placeBehind(places[d]);
                changed += behind != places[d] ? 1 : 0;
                places[d] = behind;
            }
            return changed;
        }

        private int partnerOf(int d) {
            int partner = d ^ 1;
            return partner < dancers ? partner : NONE;
        }

        private boolean isPaired(int d) {
            int partner = partnerOf(d);
            return partner != NONE && arePaired(place[d], place[partner]);
        }

        private int howManyAreHome() {
            int there = 0;
            for (int d = 0; d < dancers; d++) {
                there += place[d] == homePlace[d] ? 1 : 0;
            }
            return there;
        }

        private int howManyPartnersArePaired() {
            int pairs = 0;
            for (int d = 0; d < dancers; d += 2) {
                pairs += isPaired(d) ? 1 : 0;
            }
            return pairs;
        }

        private int callsThatFit() {
            int held = heldSpots(place, dancers);
            int bits = 0;
            for (int c = 0; c < calls; c++) {
                if (call[c].fitsOn(held)) {
                    bits |= 1 << c;
                }
            }
            return bits;
        }
    }

    /** The states to go back to, in a ring with one slot more, where the next one is prepared. */
    private static final class History {
        private static final int SLOTS = MOST_STATES + 1;

        final Square[] slot = new Square[SLOTS];
        int next;
        int kept;

        History() {
            for (int i = 0; i < SLOTS; i++) {
                slot[i] = new Square();
            }
        }

        void prepare(Square now) {
            slot[next].copyFrom(now);
        }

        void undo(Square now) {
            now.copyFrom(slot[next]);
        }

        void confirm() {
            next = (next + 1) % SLOTS;
            kept = Math.min(kept + 1, MOST_STATES);
        }

        int takeBack(Square now) {
            if (kept == 0) {
                return NO;
            }
            next = (next + SLOTS - 1) % SLOTS;
            kept--;
            now.copyFrom(slot[next]);
            return kept;
        }
    }

    /** Rows of calls, walked in the order of their numbers, from how all is now. */
    private static final class Search {
        /** As a call's number: nobody moves. It stands for the end of a row without calls. */
        private static final int NO_CALL = MOST_CALLS;
        /** More than there are rows of any length. */
        private static final int NEVER_ENOUGH = 1000000;

        final int[][] behind = new int[MOST_CALLS + 1][PLACES];
        final int[] wantedHeld = new int[MOST_CALLS];
        final int[] wantedFree = new int[MOST_CALLS];
        final int[][] places = new int[LONGEST_FOUND + 1][MOST_DANCERS];
        final int[] held = new int[LONGEST_FOUND + 1];
        final int[] homePlace = new int[MOST_DANCERS];
        final int[] row = new int[LONGEST_FOUND];
        final int[] used = new int[MOST_CALLS];
        int dancers;
        int calls;
        int goal;
        int length;
        int mostOfEach;
        boolean mayRepeat;
        int enough;

        Search() {
            for (int p = 0; p < PLACES; p++) {
                behind[NO_CALL][p] = p;
            }
        }

        /** The length of what is found (its calls stand in row then), or NONE. */
        int shortest(Square now, int g, int most, int variety) {
            start(now, g);
            mostOfEach = variety;
            mayRepeat = false;
            enough = 1;
            for (int n = 0; n <= most; n++) {
                if (rowsOfLength(n) > 0) {
                    return n;
                }
            }
            return NONE;
        }

        int howMany(Square now, int g, int n) {
            start(now, g);
            mostOfEach = n;
            mayRepeat = true;
            enough = NEVER_ENOUGH;
            return rowsOfLength(n);
        }

        int callOfRow(int i) {
            return isBelow(i, LONGEST_FOUND) ? row[i] : NONE;
        }

        private void start(Square now, int g) {
            goal = g;
            dancers = now.dancers;
            calls = now.calls;
            System.arraycopy(now.homePlace, 0, homePlace, 0, MOST_DANCERS);
            System.arraycopy(now.place, 0, places[0], 0, MOST_DANCERS);
            held[0] = heldSpots(places[0], dancers);
            Arrays.fill(used, 0);
            for (int c = 0; c < calls; c++) {
                wantedHeld[c] = now.call[c].spotsThatWant(WANT_HELD);
                wantedFree[c] = now.call[c].spotsThatWant(WANT_FREE);
                for (int p = 0; p < PLACES; p++) {
                    behind[c][p] = now.call[c].placeBehind(p);
                }
            }
        }

        private int rowsOfLength(int n) {
            length = n;
            if (n == 0) {
                return isGoalBehind(NO_CALL, 0) ? 1 : 0;
            }
            return walk(this, 0);
        }

        /** How many rows there are with the calls ahead of depth as they stand, until enough. */
        private static int walk(Search s, int depth) {
            int rows = 0;
            for (int c = 0; depth < s.length && c < s.calls && rows < s.enough; c++) {
                if (!s.mayCome(c, depth)) {
                    continue;
                }
                s.row[depth] = c;
                if (depth + 1 == s.length) {
                    rows += s.isGoalBehind(c, depth) ? 1 : 0;
                } else {
                    s.step(c, depth);
                    s.used[c]++;
                    rows += walk(s, depth + 1);
                    s.used[c]--;
                }
            }
            return rows;
        }

        private boolean mayCome(int c, int depth) {
            if (used[c] >= mostOfEach || (!mayRepeat && depth > 0 && row[depth - 1] == c)) {
                return false;
            }
            return (held[depth] & wantedHeld[c]) == wantedHeld[c] && (held[depth] & wantedFree[c]) == 0;
        }

        private void step(int c, int depth) {
            int[] from = places[depth];
            int[] to = places[depth + 1];
            for (int d = 0; d < dancers; d++) {
                to[d] = behind[c][from[d]];
            }
            held[depth + 1] = heldSpots(to, dancers);
        }

        /** Looks through the last call instead of giving it: most rows fail at the first dancer. */
        private boolean isGoalBehind(int c, int depth) {
            int[] from = places[depth];
            int[] to = behind[c];
            if (goal != GOAL_PAIRED) {
                for (int d = 0; d < dancers; d++) {
                    if (to[from[d]] != homePlace[d]) {
                        return false;
                    }
                }
            }
            if (goal != GOAL_HOME) {
                for (int d = 0; d + 1 < dancers; d += 2) {
                    if (!arePaired(to[from[d]], to[from[d + 1]])) {
                        return false;
                    }
                }
            }
            return true;
        }
    }

    /** The text, and a reader that takes one order after the other from it. */
    private static final class Text {
        private static final int END = -1;
        private static final int MOST_FIGURES = 2;

        final int[] bytes = new int[MOST_BYTES];
        int length;
        int reader;
        int fault;
        int kind;
        final int[] numbers = new int[3];
        final int[] goes = new int[SPOTS];
        int spotsTold;

        int append(int c) {
            if (!isBelow(c, BYTE_VALUES)) {
                return BAD;
            }
            if (length >= MOST_BYTES) {
                return FULL;
            }
            bytes[length] = c;
            length++;
            return length;
        }

        int empty() {
            int before = length;
            length = 0;
            return before;
        }

        void restart() {
            reader = 0;
            fault = NONE;
        }

        boolean hasMore() {
            return nextSign() != END;
        }

        int firstFault() {
            restart();
            boolean fine = readOrder();
            for (int order = 1; order < MOST_BYTES && fine && hasMore(); order++) {
                fine = readOrder();
            }
            return fault;
        }

        /** Reads into kind, numbers and goes; false: fault is where it can not be read. */
        boolean readOrder() {
            kind = nextSign();
            int wanted = numbersBehind(kind);
            if (wanted == NONE) {
                return fails(reader);
            }
            reader++;
            boolean fine = kind == 'k' ? readCycles() : readNumbers(wanted);
            if (!fine) {
                return false;
            }
            if (nextSign() != ';') {
                return fails(reader);
            }
            reader++;
            return true;
        }

        private static int numbersBehind(int kind) {
            switch (kind) {
                case 'k':
                    return 0;
                case 'g':
                case 'p':
                    return 1;
                case 'd':
                    return 2;
                case 'u':
                case 'w':
                    return 3;
                default:
                    return NONE;
            }
        }

        private boolean readNumbers(int wanted) {
            for (int i = 0; i < wanted; i++) {
                numbers[i] = readNumber();
                if (numbers[i] == NONE) {
                    return false;
                }
            }
            return true;
        }

        private boolean readCycles() {
            for (int s = 0; s < SPOTS; s++) {
                goes[s] = s;
            }
            spotsTold = 0;
            boolean fine = true;
            for (int cycle = 0; cycle < SPOTS && fine && nextSign() == '('; cycle++) {
                reader++;
                fine = readCycle();
            }
            return fine;
        }

        private boolean readCycle() {
            int first = NONE;
            int last = NONE;
            for (int n = 0; n <= SPOTS; n++) {
                if (nextSign() == ')' && n >= 2) {
                    reader++;
                    goes[last] = first;
                    return true;
                }
                int start = reader;
                int spot = readNumber();
                if (!takesSpot(spot, start)) {
                    return false;
                }
                if (n == 0) {
                    first = spot;
                } else {
                    goes[last] = spot;
                }
                last = spot;
            }
            return false;
        }

        private boolean takesSpot(int spot, int start) {
            if (spot == NONE) {
                return false;
            }
            if (spot >= SPOTS || (spotsTold >> spot & 1) != 0) {
                return fails(start);
            }
            spotsTold |= 1 << spot;
            return true;
        }

        /** NONE: no number stands there, or one of too many figures. */
        private int readNumber() {
            skipBlanks();
            int value = 0;
            int figures = 0;
            while (figures < MOST_FIGURES && isFigure()) {
                value = value * 10 + bytes[reader] - '0';
                reader++;
                figures++;
            }
            if (figures == 0 || isFigure()) {
                fails(reader);
                return NONE;
            }
            return value;
        }

        private boolean isFigure() {
            return reader < length && bytes[reader] >= '0' && bytes[reader] <= '9';
        }

        private int nextSign() {
            skipBlanks();
            return reader < length ? bytes[reader] : END;
        }

        /** The reader stands at a sign then, or at the text's end, where a fault would be told. */
        private void skipBlanks() {
            while (reader < length && bytes[reader] == ' ') {
                reader++;
            }
        }

        private boolean fails(int where) {
            fault = where;
            return false;
        }
    }
}
