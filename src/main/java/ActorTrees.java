/** Actors under supervisors. The words in capitals are those of the document (../shared/DOC.md). */
public final class ActorTrees {
    public static final int BAD = -1, NOT = -2, FULL = -3, STATE = -5;
    public static final int VOID = -2000000000;

    private static final int HOLDS_NOTHING = -11, OTHER_SORT = -12, NO_PLACE = -13, SIZE_BELOW_0 = -14;
    private static final int VOID_OTHER_SORT = -2000000012;

    private static final int MOST_ACTORS = 12, MOST_BEHAVIOURS = 5, MOST_MAIL = 12, MOST_STASH = 6;
    private static final int MOST_TIMERS = 10, MOST_LOG = 30, MOST_STEPS = 200, MOST_DRAWN = 40;
    private static final int MOST_BYTES = 120, MOST_HANDLES = 6, MOST_ITEMS = 60;
    private static final int MOST_BUDGET = 9, MOST_WINDOW = 50, MOST_NUMBER = 99;

    private static final int ONE = 0, ALL = 1, REST = 2;
    private static final int SUM = 0, PASS = 1, ECHO = 2, HOLD = 3, SWITCH = 4;
    private static final int FRAIL = 5, DELAY = 6, FAN = 7, WATCH = 8, QUIT = 9;

    private static final int WHY_NONE = 0, WHY_BELOW_COUNT = 1, WHY_DEATH = 2, WHY_STASH = 3;
    private static final int WHY_STACK = 4, WHY_THOUGHT = 5, WHY_BUDGET = 9;

    private static final int ENDED_MADE = 0, ENDED_QUIET = 1, ENDED_DOWN = 2;

    private static final int THE_ROOT = 0, NONE = -1;

    // A MESSAGE's body is its NUMBER n, or this and x for THE DEATH of x, as THE LOG tells it.
    private static final int DEATH = 200;

    private static final int TEXT_NO_PARENT = 99, MOST_TEXT_STEPS = 99;

    private final World now = new World();
    private final World thought = new World();
    private final World kept = new World();
    private final World ahead = new World();
    private final Tape tape = new Tape();
    private final Handle[] handles = new Handle[MOST_HANDLES];
    private boolean hasImage;

    public ActorTrees() {
        for (int h = 0; h < handles.length; h++) {
            handles[h] = new Handle();
        }
    }

    // ---- actors, messages

    public int actor(int parent, int own, int sbw) {
        if (sbw < 0) {
            return BAD;
        }
        return now.addActor(parent, own, sbw / 1000, sbw / 100 % 10, sbw % 100);
    }

    public int tell(int actor, int from, int n) {
        if (!now.isActor(actor) || from != NONE && !now.isActor(from) || !isNumber(n)) {
            return BAD;
        }
        return now.send(actor, from, n) ? now.actors[actor].mailbox.size : STATE;
    }

    public int of(int actor, int what) {
        if (!now.isActor(actor)) {
            return BAD;
        }
        Actor one = now.actors[actor];
        switch (what) {
            case 0: return one.parent == NONE ? NOT : one.parent;
            case 1: return one.own;
            case 2: return one.strategy;
            case 3: return one.budget;
            case 4: return one.window;
            case 5: return one.live ? 1 : 0;
            case 6: return one.stack.at(one.stack.size - 1);
            case 7: return one.stack.size;
            case 8: return one.mailbox.size;
            case 9: return one.stash.size;
            case 10: return one.watchers.size;
            case 11: return now.timers.countOf(actor);
            case 12: return one.notes.countFrom(now.time - one.window);
            case 13: return now.childBits(actor);
            default: return BAD;
        }
    }

    public int counted(int actor) {
        return now.isActor(actor) ? now.actors[actor].count : VOID;
    }

    public int message(int actor, int i, boolean stash) {
        if (!now.isActor(actor) || i < 0) {
            return BAD;
        }
        Pairs row = stash ? now.actors[actor].stash : now.actors[actor].mailbox;
        return i < row.size ? 100 + row.secondAt(i) : NOT;
    }

    public int sender(int actor, int i, boolean stash) {
        if (!now.isActor(actor) || i < 0) {
            return NOT;
        }
        Pairs row = stash ? now.actors[actor].stash : now.actors[actor].mailbox;
        return i < row.size ? row.firstAt(i) : NOT;
    }

    public int stack(int actor, int i) {
        return now.isActor(actor) ? itemOf(now.actors[actor].stack, i) : BAD;
    }

    public int watcher(int actor, int i) {
        return now.isActor(actor) ? itemOf(now.actors[actor].watchers, i) : BAD;
    }

    public int timer(int i, int what) {
        if (i < 0 || what < 0 || what > 2) {
            return BAD;
        }
        Timers timers = now.timers;
        if (i >= timers.size) {
            return NOT;
        }
        return what == 0 ? timers.ownerAt(i) : what == 1 ? timers.dueAt(i) : 100 + timers.numberAt(i);
    }

    public int stop(int actor) {
        if (!now.isActor(actor)) {
            return BAD;
        }
        return now.isLive(actor) ? now.halt(actor) : STATE;
    }

    // ---- steps

    public int run(int n) {
        return isSteps(n) ? now.makeSteps(n) : BAD;
    }

    public int ended() {
        return now.ended;
    }

    public int log(int i) {
        if (i < 0) {
            return BAD;
        }
        Pairs dealt = now.dealt;
        return i < dealt.size ? 1000 * dealt.firstAt(i) + dealt.secondAt(i) + 300 : NOT;
    }

    public int cause(int i, int what) {
        if (i < 0 || what < 0 || what > 1) {
            return BAD;
        }
        Pairs causes = now.causes;
        if (i >= causes.size) {
            return NOT;
        }
        // They are noted as they come, and told from the last on.
        int place = causes.size - 1 - i;
        return what == 0 ? causes.firstAt(place) : causes.secondAt(place);
    }

    // ---- in thought

    public int dry(int n, int what) {
        boolean known = what >= 0 && what <= 5 || what >= 10 && now.isActor(what - 10);
        if (!isSteps(n) || !known) {
            return VOID;
        }
        thought.copyFrom(now);
        int made = thought.makeSteps(n);
        switch (what) {
            case 0: return made;
            case 1: return thought.ended;
            case 2: return thought.liveBits();
            case 3: return thought.deadLetters;
            case 4: return thought.clock;
            case 5: return thought.time;
            default: return thought.isActor(what - 10) ? thought.actors[what - 10].count : VOID;
        }
    }

    public int first() {
        thought.copyFrom(now);
        thought.hasFailed = false;
        for (int made = 1; made <= MOST_STEPS; made++) {
            if (!thought.step()) {
                return NOT;
            }
            if (thought.hasFailed) {
                return made;
            }
        }
        return NOT;
    }

    public int quiet() {
        thought.copyFrom(now);
        for (int made = 0; made < MOST_STEPS; made++) {
            if (!thought.step()) {
                return made;
            }
        }
        return thought.hasStep() ? NOT : MOST_STEPS;
    }

    public int would(int actor, int n, int what) {
        if (!now.isLive(actor) || !isNumber(n) || what < 0 || what > 2) {
            return VOID;
        }
        thought.copyFrom(now);
        int why = thought.deal(actor, NONE, n);
        if (why != WHY_NONE) {
            thought.fail(actor, why);
        }
        if (what == 0) {
            return thought.actors[actor].count;
        }
        return what == 2 ? why : thought.isLive(actor) ? 1 : 0;
    }

    public int brings(int actor, int what) {
        if (!now.isLive(actor) || what < 0 || what > 2) {
            return VOID;
        }
        thought.copyFrom(now);
        thought.restarted = 0;
        thought.fail(actor, WHY_THOUGHT);
        if (what == 0) {
            return thought.restarted;
        }
        if (what == 1) {
            return now.liveBits() & ~thought.liveBits();
        }
        return thought.causes.firstAt(thought.causes.size - 1);
    }

    public int reach(int from, int to) {
        if (!now.isActor(from) || !now.isActor(to)) {
            return BAD;
        }
        int one = from;
        int other = to;
        // A PARENT came ahead of its CHILDREN, so of two the greater number is never above the other.
        for (int ways = 0; ways < 2 * MOST_ACTORS; ways++) {
            if (!now.isLive(one) || !now.isLive(other)) {
                return NOT;
            }
            if (one == other) {
                return ways;
            }
            if (one > other) {
                one = now.actors[one].parent;
            } else {
                other = now.actors[other].parent;
            }
        }
        return NOT;
    }

    // ---- texts, rows, images

    public int feed(int letter) {
        if (letter < 0 || letter > 255) {
            return BAD;
        }
        return tape.bytes.add(letter) ? tape.bytes.size : FULL;
    }

    public int script() {
        int fault = tape.faultOfForm();
        if (fault != NONE) {
            tape.bytes.size = 0;
            return -1000 - fault;
        }
        ahead.copyFrom(now);
        tape.place = 0;
        int answer = 0;
        while (answer >= 0 && answer < MOST_BYTES && !tape.isRead()) {
            int steps = doLineButSteps();
            if (steps > 0) {
                now.makeSteps(steps);
            }
            answer = steps < 0 ? -2000 - answer : answer + 1;
        }
        if (answer < 0) {
            now.copyFrom(ahead);
        }
        tape.bytes.size = 0;
        return answer;
    }

    public int drawn(int n) {
        if (n < 1 || n > MOST_DRAWN) {
            return BAD;
        }
        if (now.came == 0) {
            return STATE;
        }
        int before = now.deadLetters;
        for (int k = 0; k < n; k++) {
            now.seed = now.seed * 1103515245 + 12345;
            int x = now.seed >>> 16 & 32767;
            now.send(x % now.came, NONE, x / 12 % 199 - MOST_NUMBER);
        }
        return now.deadLetters - before;
    }

    public int seed(int v) {
        int before = now.seed;
        now.seed = v;
        return before;
    }

    public int order(int handle, int n) {
        if (!isHandle(handle)) {
            return BAD;
        }
        Handle held = handles[handle];
        if (held.sort == Handle.NOTHING) {
            return HOLDS_NOTHING;
        }
        if (held.sort != Handle.ROW) {
            return OTHER_SORT;
        }
        if (n < 0) {
            return SIZE_BELOW_0;
        }
        return n > held.items.size / 2 ? NO_PLACE : firstOtherwise(held.items, n);
    }

    public int image() {
        kept.copyFrom(now);
        hasImage = true;
        return kept.came;
    }

    public int back() {
        if (!hasImage) {
            return STATE;
        }
        now.copyFrom(kept);
        for (int h = 0; h < handles.length; h++) {
            if (handles[h].sort == Handle.ACTOR && !now.isActor(handles[h].actor)) {
                handles[h].sort = Handle.NOTHING;
            }
        }
        return now.came;
    }

    public int hold(int handle, int actor) {
        if (!isHandle(handle) || actor != NONE && !now.isActor(actor)) {
            return BAD;
        }
        handles[handle].sort = actor == NONE ? Handle.NOTHING : Handle.ACTOR;
        handles[handle].actor = actor;
        return 1;
    }

    public int row(int handle, int n) {
        if (!isHandle(handle) || n > MOST_ITEMS) {
            return BAD;
        }
        if (n < 0) {
            return SIZE_BELOW_0;
        }
        handles[handle].sort = Handle.ROW;
        handles[handle].items.fillWithZeros(n);
        return 1;
    }

    public int put(int handle, int i, int v) {
        if (!isHandle(handle) || handles[handle].sort != Handle.ROW) {
            return VOID;
        }
        Numbers items = handles[handle].items;
        if (i < 0 || i >= items.size) {
            return VOID;
        }
        int before = items.at(i);
        items.change(i, v);
        return before;
    }

    public int tells(int handle, int as) {
        if (!isHandle(handle) || as < 0 || as > 3 || handles[handle].sort == Handle.NOTHING) {
            return VOID;
        }
        int number = handles[handle].actor;
        if (handles[handle].sort != Handle.ACTOR || !now.isActor(number)) {
            return VOID_OTHER_SORT;
        }
        Actor one = now.actors[number];
        int children = now.childBits(number);
        switch (as) {
            case 1: return children == 0 ? one.count : VOID_OTHER_SORT;
            case 2: return children != 0 ? Integer.bitCount(children & now.liveBits()) : VOID_OTHER_SORT;
            case 3: return one.live && one.mailbox.size == 0 ? one.stash.size : VOID_OTHER_SORT;
            default: return number;
        }
    }

    public int count(int what) {
        switch (what) {
            case 0: return now.came;
            case 1: return Integer.bitCount(now.liveBits());
            case 2: return now.mailed();
            case 3: return now.timers.size;
            case 4: return now.deadLetters;
            case 5: return now.clock;
            case 6: return now.time;
            case 7: return now.causes.size;
            case 8: return now.dealt.size;
            case 9: return tape.bytes.size;
            default: return BAD;
        }
    }

    // ---- what several calls need

    private static boolean isNumber(int n) {
        return n >= -MOST_NUMBER && n <= MOST_NUMBER;
    }

    private static boolean isSteps(int n) {
        return n >= 1 && n <= MOST_STEPS;
    }

    private static boolean isHandle(int handle) {
        return handle >= 0 && handle < MOST_HANDLES;
    }

    private static int itemOf(Numbers row, int i) {
        if (i < 0) {
            return BAD;
        }
        return i < row.size ? row.at(i) : NOT;
    }

    /** Does the next LINE: how many STEPS it wants, which the caller makes; BAD: it can't be. */
    private int doLineButSteps() {
        tape.readLine();
        // Behind it stands a ; or nothing.
        tape.place++;
        Numbers told = tape.numbers;
        int n = told.at(told.size - 1);
        switch (tape.kind) {
            case 'a':
                int parent = told.at(0) == TEXT_NO_PARENT ? NONE : told.at(0);
                return now.addActor(parent, told.at(1), told.at(2), told.at(3), n) >= 0 ? 0 : BAD;
            case 'm':
                if (!now.isActor(told.at(0))) {
                    return BAD;
                }
                now.send(told.at(0), NONE, n);
                return 0;
            case 's':
                return n >= 1 && n <= MOST_TEXT_STEPS ? n : BAD;
            default:
                return BAD;
        }
    }

    private int firstOtherwise(Numbers twos, int n) {
        thought.copyFrom(now);
        int met = 0;
        for (int made = 0; made < MOST_STEPS && met < n; made++) {
            int before = thought.clock;
            if (!thought.step()) {
                return met;
            }
            // A TIMER that goes is a STEP by which nothing is dealt with.
            if (thought.clock != before) {
                int last = thought.dealt.size - 1;
                if (thought.dealt.firstAt(last) != twos.at(2 * met) || thought.dealt.secondAt(last) != twos.at(2 * met + 1)) {
                    return met;
                }
                met++;
            }
        }
        return met < n ? met : NOT;
    }

    /** A row of ints with room for some. */
    private static final class Numbers {
        final int[] items;
        int size;

        Numbers(int room) {
            items = new int[room < 0 ? 0 : room];
        }

        int at(int i) {
            return i >= 0 && i < items.length ? items[i] : 0;
        }

        void change(int i, int v) {
            if (i >= 0 && i < items.length) {
                items[i] = v;
            }
        }

        boolean add(int v) {
            if (size < 0 || size >= items.length) {
                return false;
            }
            items[size] = v;
            size++;
            return true;
        }

        boolean has(int v) {
            for (int i = 0; i < size && i < items.length; i++) {
                if (items[i] == v) {
                    return true;
                }
            }
            return false;
        }

        void remove(int v) {
            int left = 0;
            for (int i = 0; i < size && i < items.length; i++) {
                if (items[i] != v) {
                    items[left] = items[i];
                    left++;
                }
            }
            size = left;
        }

        void removeBelow(int least) {
            int left = 0;
            for (int i = 0; i < size && i < items.length; i++) {
                if (items[i] >= least) {
                    items[left] = items[i];
                    left++;
                }
            }
            size = left;
        }

        int countFrom(int least) {
            int many = 0;
            for (int i = 0; i < size && i < items.length; i++) {
                many += items[i] >= least ? 1 : 0;
            }
            return many;
        }

        void fillWithZeros(int n) {
            for (int i = 0; i < items.length; i++) {
                items[i] = 0;
            }
            size = Math.max(0, Math.min(n, items.length));
        }

        void copyFrom(Numbers other) {
            size = Math.max(0, Math.min(other.size, Math.min(items.length, other.items.length)));
            System.arraycopy(other.items, 0, items, 0, size);
        }
    }

    /** A row of twos with room for some: MESSAGES (from, body), what was dealt with, CAUSES. */
    private static final class Pairs {
        final int[] firsts;
        final int[] seconds;
        int size;

        Pairs(int room) {
            firsts = new int[room < 0 ? 0 : room];
            seconds = new int[room < 0 ? 0 : room];
        }

        int firstAt(int i) {
            return i >= 0 && i < firsts.length ? firsts[i] : NONE;
        }

        int secondAt(int i) {
            return i >= 0 && i < seconds.length ? seconds[i] : 0;
        }

        boolean add(int first, int second) {
            if (size < 0 || size >= firsts.length || size >= seconds.length) {
                return false;
            }
            firsts[size] = first;
            seconds[size] = second;
            size++;
            return true;
        }

        void addDroppingOldest(int first, int second) {
            if (size == firsts.length) {
                removeFirst();
            }
            add(first, second);
        }

        void removeFirst() {
            if (size > 0) {
                size--;
                System.arraycopy(firsts, 1, firsts, 0, size);
                System.arraycopy(seconds, 1, seconds, 0, size);
            }
        }

        /** Puts the first of another row ahead of all here, as many as have room: how many. */
        int putAhead(Pairs other) {
            int moved = Math.min(other.size, firsts.length - size);
            if (moved <= 0) {
                return 0;
            }
            System.arraycopy(firsts, 0, firsts, moved, size);
            System.arraycopy(seconds, 0, seconds, moved, size);
            System.arraycopy(other.firsts, 0, firsts, 0, moved);
            System.arraycopy(other.seconds, 0, seconds, 0, moved);
            size += moved;
            return moved;
        }

        void copyFrom(Pairs other) {
            size = Math.max(0, Math.min(other.size, Math.min(firsts.length, other.firsts.length)));
            System.arraycopy(other.firsts, 0, firsts, 0, size);
            System.arraycopy(other.seconds, 0, seconds, 0, size);
        }
    }

    /** The TIMERS, always as they will be due. */
    private static final class Timers {
        final int[] owners = new int[MOST_TIMERS];
        final int[] dues = new int[MOST_TIMERS];
        final int[] numbers = new int[MOST_TIMERS];
        int size;

        int ownerAt(int i) {
            return i >= 0 && i < owners.length ? owners[i] : NONE;
        }

        int dueAt(int i) {
            return i >= 0 && i < dues.length ? dues[i] : 0;
        }

        int numberAt(int i) {
            return i >= 0 && i < numbers.length ? numbers[i] : 0;
        }

        int countOf(int owner) {
            int many = 0;
            for (int i = 0; i < size && i < MOST_TIMERS; i++) {
                many += owners[i] == owner ? 1 : 0;
            }
            return many;
        }

        void set(int owner, int due, int n) {
            if (size < 0 || size >= MOST_TIMERS) {
                return;
            }
            int place = size;
            // Behind those due at the same time: of several the one set first goes first.
            while (place > 0 && dues[place - 1] > due) {
                move(place - 1, place);
                place--;
            }
            owners[place] = owner;
            dues[place] = due;
            numbers[place] = n;
            size++;
        }

        void removeOf(int owner) {
            int left = 0;
            for (int i = 0; i < size && i < MOST_TIMERS; i++) {
                if (owners[i] != owner) {
                    move(i, left);
                    left++;
                }
            }
            size = left;
        }

        void removeFirst() {
            if (size > 0) {
                for (int i = 1; i < size; i++) {
                    move(i, i - 1);
                }
                size--;
            }
        }

        private void move(int from, int to) {
            if (from >= 0 && from < MOST_TIMERS && to >= 0 && to < MOST_TIMERS) {
                owners[to] = owners[from];
                dues[to] = dues[from];
                numbers[to] = numbers[from];
            }
        }

        void copyFrom(Timers other) {
            size = Math.max(0, Math.min(other.size, MOST_TIMERS));
            System.arraycopy(other.owners, 0, owners, 0, size);
            System.arraycopy(other.dues, 0, dues, 0, size);
            System.arraycopy(other.numbers, 0, numbers, 0, size);
        }
    }

    private static final class Actor {
        int parent;
        int own;
        int strategy;
        int budget;
        int window;
        int count;
        boolean live;
        final Numbers stack = new Numbers(MOST_BEHAVIOURS);
        final Pairs mailbox = new Pairs(MOST_MAIL);
        final Pairs stash = new Pairs(MOST_STASH);
        final Numbers watchers = new Numbers(MOST_ACTORS);
        // As many as a BUDGET lets be, and the one by which it is exceeded: then all of them go.
        final Numbers notes = new Numbers(MOST_BUDGET + 1);

        void begin(int itsParent, int itsOwn) {
            parent = itsParent;
            own = itsOwn;
            count = 0;
            live = true;
            mailbox.size = 0;
            stash.size = 0;
            watchers.size = 0;
            keepOwnOnly();
        }

        void keepOwnOnly() {
            stack.size = 0;
            stack.add(own);
            notes.size = 0;
        }

        void copyFrom(Actor other) {
            parent = other.parent;
            own = other.own;
            strategy = other.strategy;
            budget = other.budget;
            window = other.window;
            count = other.count;
            live = other.live;
            stack.copyFrom(other.stack);
            mailbox.copyFrom(other.mailbox);
            stash.copyFrom(other.stash);
            watchers.copyFrom(other.watchers);
            notes.copyFrom(other.notes);
        }
    }

    /** All that AN IMAGE keeps; a second one is what a thought is tried on. */
    private static final class World {
        final Actor[] actors = new Actor[MOST_ACTORS];
        final Timers timers = new Timers();
        final Pairs dealt = new Pairs(MOST_LOG);
        final Pairs causes = new Pairs(MOST_ACTORS);
        int came;
        int latest = NONE;
        int time;
        int clock;
        int deadLetters;
        int seed = 1;
        int ended;
        // These two are for thoughts alone, which set them back themselves.
        boolean hasFailed;
        int restarted;

        World() {
            for (int a = 0; a < actors.length; a++) {
                actors[a] = new Actor();
            }
        }

        void copyFrom(World other) {
            came = other.came;
            for (int a = 0; a < came && a < MOST_ACTORS; a++) {
                actors[a].copyFrom(other.actors[a]);
            }
            timers.copyFrom(other.timers);
            dealt.copyFrom(other.dealt);
            causes.copyFrom(other.causes);
            latest = other.latest;
            time = other.time;
            clock = other.clock;
            deadLetters = other.deadLetters;
            seed = other.seed;
            ended = other.ended;
        }

        boolean isActor(int a) {
            return a >= 0 && a < came && a < MOST_ACTORS;
        }

        boolean isLive(int a) {
            return a >= 0 && a < came && a < MOST_ACTORS && actors[a].live;
        }

        boolean isLiveChild(int a, int parent) {
            return a >= 0 && a < came && a < MOST_ACTORS && actors[a].live && actors[a].parent == parent;
        }

        int childBits(int parent) {
            int bits = 0;
            for (int a = 0; a < came && a < MOST_ACTORS; a++) {
                bits |= actors[a].parent == parent ? 1 << a : 0;
            }
            return bits;
        }

        int liveBits() {
            int bits = 0;
            for (int a = 0; a < came && a < MOST_ACTORS; a++) {
                bits |= actors[a].live ? 1 << a : 0;
            }
            return bits;
        }

        int mailed() {
            int many = 0;
            for (int a = 0; a < came && a < MOST_ACTORS; a++) {
                many += actors[a].mailbox.size;
            }
            return many;
        }

        int addActor(int parent, int own, int strategy, int budget, int window) {
            boolean hasPlace = parent == NONE ? came == 0 : isActor(parent);
            if (!hasPlace || own < SUM || own > QUIT || strategy < ONE || strategy > REST
                    || budget < 0 || budget > MOST_BUDGET || window < 1 || window > MOST_WINDOW) {
                return BAD;
            }
            if (parent != NONE && !isLive(parent)) {
                return STATE;
            }
            if (came < 0 || came >= MOST_ACTORS) {
                return FULL;
            }
            Actor one = actors[came];
            one.begin(parent, own);
            one.strategy = strategy;
            one.budget = budget;
            one.window = window;
            came++;
            return came - 1;
        }

        /** Whether it came to the MAILBOX; else it is a DEAD LETTER. */
        boolean send(int to, int from, int body) {
            boolean comes = isLive(to) && actors[to].mailbox.add(from, body);
            if (!comes) {
                deadLetters++;
            }
            return comes;
        }

        /** A RUN: how many STEPS were made. */
        int makeSteps(int most) {
            int made = 0;
            ended = howItStands();
            while (made < most && ended == ENDED_MADE) {
                step();
                made++;
                ended = howItStands();
            }
            return made;
        }

        private int howItStands() {
            if (came > 0 && !isLive(THE_ROOT)) {
                return ENDED_DOWN;
            }
            return hasStep() ? ENDED_MADE : ENDED_QUIET;
        }

        boolean hasStep() {
            return timers.size > 0 || nextDealer() != NONE;
        }

        private int nextDealer() {
            for (int k = 1; k <= MOST_ACTORS; k++) {
                int a = (latest + k) % MOST_ACTORS;
                if (isLive(a) && actors[a].mailbox.size > 0) {
                    return a;
                }
            }
            return NONE;
        }

        /** One STEP; false: there is none. */
        boolean step() {
            int dealer = nextDealer();
            if (!isActor(dealer)) {
                return fireTimer();
            }
            Pairs mailbox = actors[dealer].mailbox;
            int from = mailbox.firstAt(0);
            int body = mailbox.secondAt(0);
            mailbox.removeFirst();
            latest = dealer;
            clock++;
            dealt.addDroppingOldest(dealer, body);
            int why = deal(dealer, from, body);
            if (why != WHY_NONE) {
                fail(dealer, why);
            }
            return true;
        }

        private boolean fireTimer() {
            if (timers.size == 0) {
                return false;
            }
            int owner = timers.ownerAt(0);
            int n = timers.numberAt(0);
            time = timers.dueAt(0);
            timers.removeFirst();
            send(owner, NONE, n);
            return true;
        }

        /** What a MESSAGE brings about; why the ACTOR FAILS by it, which the caller sees to. */
        int deal(int a, int from, int body) {
            if (!isActor(a)) {
                return WHY_NONE;
            }
            Actor one = actors[a];
            int does = one.stack.at(one.stack.size - 1);
            if (body < DEATH) {
                return does >= FRAIL ? dealLater(a, does, body) : dealEarlier(a, does, from, body);
            }
            if (does == FRAIL) {
                return WHY_DEATH;
            }
            one.count += 100 + (body - DEATH);
            return WHY_NONE;
        }

        private int dealEarlier(int a, int does, int from, int n) {
            Actor one = actors[a];
            switch (does) {
                case SUM:
                    one.count += n;
                    return WHY_NONE;
                case PASS:
                    sendDown(a, n, 1);
                    return WHY_NONE;
                case ECHO:
                    if (n > 0 && isActor(from)) {
                        send(from, a, n - 1);
                    }
                    return WHY_NONE;
                case HOLD:
                    if (n % 2 != 0) {
                        return one.stash.add(from, n) ? WHY_NONE : WHY_STASH;
                    }
                    unstash(one);
                    return WHY_NONE;
                case SWITCH:
                    if (n >= 0) {
                        return one.stack.add(n % 10) ? WHY_NONE : WHY_STACK;
                    }
                    one.stack.size -= one.stack.size > 1 ? 1 : 0;
                    return WHY_NONE;
                default:
                    return WHY_NONE;
            }
        }

        private int dealLater(int a, int does, int n) {
            Actor one = actors[a];
            switch (does) {
                case FRAIL:
                    if (n < one.count) {
                        return WHY_BELOW_COUNT;
                    }
                    one.count = n;
                    return WHY_NONE;
                case DELAY:
                    if (n > 0) {
                        timers.set(a, time + 1 + n % 8, n - 1);
                    }
                    return WHY_NONE;
                case FAN:
                    sendDown(a, n, MOST_ACTORS);
                    return WHY_NONE;
                case WATCH:
                    watch(a, n < 0 ? n + 99 : n);
                    return WHY_NONE;
                case QUIT:
                    halt(a);
                    return WHY_NONE;
                default:
                    return WHY_NONE;
            }
        }

        private void sendDown(int parent, int n, int most) {
            int sent = 0;
            for (int a = 0; a < came && sent < most; a++) {
                if (isLiveChild(a, parent)) {
                    send(a, parent, n);
                    sent++;
                }
            }
        }

        private void unstash(Actor one) {
            deadLetters += one.stash.size - one.mailbox.putAhead(one.stash);
            one.stash.size = 0;
        }

        private void watch(int a, int n) {
            if (came <= 0) {
                return;
            }
            int watched = n % came;
            if (watched == a || !isActor(watched)) {
                return;
            }
            if (!isLive(watched)) {
                send(a, a, DEATH + watched);
            } else if (!actors[watched].watchers.has(a)) {
                actors[watched].watchers.add(a);
            }
        }

        void fail(int a, int why) {
            hasFailed = true;
            causes.size = 0;
            causes.add(a, why);
            int top = a;
            for (int level = 0; level < MOST_ACTORS && isOverBudgetAbove(top); level++) {
                top = actors[top].parent;
                causes.add(top, WHY_BUDGET);
            }
            if (top == THE_ROOT) {
                halt(THE_ROOT);
                return;
            }
            for (int b = 0; b < came; b++) {
                if (isRestartedWith(b, top)) {
                    restart(b);
                }
            }
        }

        /** The PARENT of one that FAILED notes TIME: whether that is too often. */
        private boolean isOverBudgetAbove(int failed) {
            if (!isActor(failed) || !isActor(actors[failed].parent)) {
                return false;
            }
            Actor parent = actors[actors[failed].parent];
            // TIME never goes back, so what is too old now will never count again.
            parent.notes.removeBelow(time - parent.window);
            parent.notes.add(time);
            return parent.notes.size > parent.budget;
        }

        private boolean isRestartedWith(int b, int failed) {
            if (!isActor(failed) || !isActor(actors[failed].parent) || !isLiveChild(b, actors[failed].parent)) {
                return false;
            }
            int strategy = actors[actors[failed].parent].strategy;
            return b == failed || strategy == ALL || strategy == REST && b > failed;
        }

        private void restart(int a) {
            if (!isActor(a)) {
                return;
            }
            restarted |= 1 << a;
            for (int child = MOST_ACTORS - 1; child > a; child--) {
                if (isLiveChild(child, a)) {
                    halt(child);
                }
            }
            actors[a].count = 0;
            actors[a].keepOwnOnly();
            timers.removeOf(a);
            unstash(actors[a]);
        }

        /** One STOPS, and ahead of it all below: how many. */
        int halt(int a) {
            int stopped = 0;
            int at = a;
            // Each round goes one down, or stops one and goes one up.
            for (int round = 0; round < 2 * MOST_ACTORS && isLive(at); round++) {
                int child = greatestLiveChild(at);
                if (child != NONE) {
                    at = child;
                    continue;
                }
                Actor one = actors[at];
                one.live = false;
                one.mailbox.size = 0;
                one.stash.size = 0;
                one.keepOwnOnly();
                timers.removeOf(at);
                for (int b = 0; b < came && b < MOST_ACTORS; b++) {
                    actors[b].watchers.remove(at);
                }
                for (int i = 0; i < one.watchers.size; i++) {
                    send(one.watchers.at(i), NONE, DEATH + at);
                }
                one.watchers.size = 0;
                stopped++;
                at = at == a ? NONE : one.parent;
            }
            return stopped;
        }

        private int greatestLiveChild(int parent) {
            for (int a = came - 1; a > parent; a--) {
                if (isLiveChild(a, parent)) {
                    return a;
                }
            }
            return NONE;
        }
    }

    /** THE TAPE, and the LINE of its TEXT that was read latest. */
    private static final class Tape {
        final Numbers bytes = new Numbers(MOST_BYTES);
        final Numbers numbers = new Numbers(5);
        int kind;
        int place;

        boolean isRead() {
            return place >= bytes.size;
        }

        /** The place of the first byte with which no TEXT goes on; NONE: it is one. */
        int faultOfForm() {
            place = 0;
            for (int line = 0; line < MOST_BYTES; line++) {
                if (!readLine()) {
                    return place;
                }
                if (isRead()) {
                    return NONE;
                }
                if (bytes.at(place) != ';') {
                    return place;
                }
                place++;
            }
            return place;
        }

        /** Reads a LINE from the place on; false: the place is then that of its fault. */
        boolean readLine() {
            numbers.size = 0;
            kind = isRead() ? NONE : bytes.at(place);
            int wanted = kind == 'a' ? 5 : kind == 'm' ? 2 : kind == 's' ? 1 : 0;
            if (wanted == 0) {
                return false;
            }
            place++;
            for (int k = 1; k <= wanted; k++) {
                if (!readNumber(kind != 'a' && k == wanted)) {
                    return false;
                }
            }
            return true;
        }

        private boolean readNumber(boolean mayBeBelow0) {
            if (!isNext(' ')) {
                return false;
            }
            place++;
            boolean below0 = mayBeBelow0 && isNext('-');
            place += below0 ? 1 : 0;
            if (!isDigitNext()) {
                return false;
            }
            int v = bytes.at(place) - '0';
            place++;
            if (isDigitNext()) {
                v = 10 * v + bytes.at(place) - '0';
                place++;
            }
            numbers.add(below0 ? -v : v);
            return true;
        }

        private boolean isNext(char sign) {
            return !isRead() && bytes.at(place) == sign;
        }

        private boolean isDigitNext() {
            return !isRead() && bytes.at(place) >= '0' && bytes.at(place) <= '9';
        }
    }

    private static final class Handle {
        static final int NOTHING = 0, ACTOR = 1, ROW = 2;

        final Numbers items = new Numbers(MOST_ITEMS);
        int sort;
        int actor;
    }
}
