import java.util.ArrayList;
import java.util.Arrays;
import java.util.Comparator;
import java.util.List;

/**
 * The document once more, in the plainest form and with the Java library: lists, recursion, a new copy
 * for each thought. It shares no line with the class, so that a slip in one shows against the other.
 */
final class Model {
    static final int BAD = -1, NOT = -2, FULL = -3, STATE = -5, VOID = -2000000000;

    record Message(int from, int body) {}

    record Timer(int actor, int due, int n) {}

    static final class One {
        int parent, own, strategy, budget, window, count;
        boolean live = true;
        List<Integer> stack = new ArrayList<>();
        List<Message> mailbox = new ArrayList<>();
        List<Message> stash = new ArrayList<>();
        List<Integer> watchers = new ArrayList<>();
        List<Integer> notes = new ArrayList<>();

        One copy() {
            One c = new One();
            c.parent = parent;
            c.own = own;
            c.strategy = strategy;
            c.budget = budget;
            c.window = window;
            c.count = count;
            c.live = live;
            c.stack.addAll(stack);
            c.mailbox.addAll(mailbox);
            c.stash.addAll(stash);
            c.watchers.addAll(watchers);
            c.notes.addAll(notes);
            return c;
        }
    }

    static final class Sys {
        List<One> actors = new ArrayList<>();
        List<Timer> timers = new ArrayList<>();
        List<int[]> log = new ArrayList<>();
        List<int[]> causes = new ArrayList<>();
        int time, clock, dead, latest = -1, seed = 1, ended;
        int failures;
        List<Integer> restarted = new ArrayList<>();

        Sys copy() {
            Sys c = new Sys();
            for (One a : actors) {
                c.actors.add(a.copy());
            }
            c.timers.addAll(timers);
            c.log.addAll(log);
            c.causes.addAll(causes);
            c.time = time;
            c.clock = clock;
            c.dead = dead;
            c.latest = latest;
            c.seed = seed;
            c.ended = ended;
            return c;
        }

        boolean known(int a) {
            return a >= 0 && a < actors.size();
        }

        List<Integer> liveChildren(int p) {
            List<Integer> r = new ArrayList<>();
            for (int a = 0; a < actors.size(); a++) {
                if (actors.get(a).live && actors.get(a).parent == p) {
                    r.add(a);
                }
            }
            return r;
        }

        void send(int to, int from, int body) {
            One a = actors.get(to);
            if (!a.live || a.mailbox.size() == 12) {
                dead++;
            } else {
                a.mailbox.add(new Message(from, body));
            }
        }

        List<Timer> dueTimers() {
            List<Timer> r = new ArrayList<>(timers);
            r.sort(Comparator.comparingInt(Timer::due));
            return r;
        }

        boolean noStep() {
            return timers.isEmpty() && actors.stream().allMatch(a -> !a.live || a.mailbox.isEmpty());
        }

        /** 0: there is none; 1: a TIMER goes; 2: something is dealt with. */
        int step() {
            List<Integer> round = new ArrayList<>();
            for (int a = latest + 1; a < 12; a++) {
                round.add(a);
            }
            for (int a = 0; a <= latest; a++) {
                round.add(a);
            }
            for (int a : round) {
                if (known(a) && actors.get(a).live && !actors.get(a).mailbox.isEmpty()) {
                    Message m = actors.get(a).mailbox.remove(0);
                    latest = a;
                    clock++;
                    log.add(new int[] {a, m.body()});
                    if (log.size() > 30) {
                        log.remove(0);
                    }
                    int why = does(a, m);
                    if (why > 0) {
                        failed(a, why);
                    }
                    return 2;
                }
            }
            if (timers.isEmpty()) {
                return 0;
            }
            Timer t = dueTimers().get(0);
            timers.remove(t);
            time = t.due();
            send(t.actor(), -1, t.n());
            return 1;
        }

        int does(int a, Message m) {
            One o = actors.get(a);
            int b = o.stack.get(o.stack.size() - 1);
            int n = m.body();
            if (n >= 200) {
                if (b == 5) {
                    return 2;
                }
                o.count += 100 + n - 200;
            } else if (b == 0) {
                o.count += n;
            } else if (b == 1) {
                liveChildren(a).stream().findFirst().ifPresent(c -> send(c, a, n));
            } else if (b == 2) {
                if (n > 0 && m.from() != -1) {
                    send(m.from(), a, n - 1);
                }
            } else if (b == 3) {
                if (Math.abs(n) % 2 == 1) {
                    if (o.stash.size() == 6) {
                        return 3;
                    }
                    o.stash.add(m);
                } else {
                    unstash(o);
                }
            } else if (b == 4) {
                if (n < 0) {
                    if (o.stack.size() > 1) {
                        o.stack.remove(o.stack.size() - 1);
                    }
                } else if (o.stack.size() == 5) {
                    return 4;
                } else {
                    o.stack.add(n % 10);
                }
            } else if (b == 5) {
                if (n < o.count) {
                    return 1;
                }
                o.count = n;
            } else if (b == 6) {
                if (n > 0 && timers.size() < 10) {
                    timers.add(new Timer(a, time + 1 + n % 8, n - 1));
                }
            } else if (b == 7) {
                liveChildren(a).forEach(c -> send(c, a, n));
            } else if (b == 8) {
                int w = (n < 0 ? n + 99 : n) % actors.size();
                if (w != a) {
                    One x = actors.get(w);
                    if (!x.live) {
                        send(a, a, 200 + w);
                    } else if (!x.watchers.contains(a)) {
                        x.watchers.add(a);
                    }
                }
            } else {
                stop(a);
            }
            return 0;
        }

        void unstash(One o) {
            int room = 12 - o.mailbox.size();
            List<Message> back = o.stash.subList(0, Math.min(room, o.stash.size()));
            dead += o.stash.size() - back.size();
            o.mailbox.addAll(0, new ArrayList<>(back));
            o.stash.clear();
        }

        int stop(int a) {
            int many = 1;
            List<Integer> children = liveChildren(a);
            for (int i = children.size() - 1; i >= 0; i--) {
                many += stop(children.get(i));
            }
            One o = actors.get(a);
            o.live = false;
            o.mailbox.clear();
            o.stash.clear();
            o.stack.clear();
            o.stack.add(o.own);
            o.notes.clear();
            timers.removeIf(t -> t.actor() == a);
            actors.forEach(x -> x.watchers.remove((Integer) a));
            List<Integer> told = new ArrayList<>(o.watchers);
            told.forEach(w -> send(w, -1, 200 + a));
            o.watchers.clear();
            return many;
        }

        void failed(int a, int why) {
            failures++;
            causes.clear();
            passUp(a, why);
        }

        void passUp(int a, int why) {
            causes.add(0, new int[] {a, why});
            if (a == 0) {
                stop(0);
                return;
            }
            int parent = actors.get(a).parent;
            One p = actors.get(parent);
            p.notes.add(time);
            if (p.notes.stream().filter(t -> t >= time - p.window).count() > p.budget) {
                passUp(parent, 9);
                return;
            }
            for (int c : liveChildren(parent)) {
                if (c == a || p.strategy == 1 || p.strategy == 2 && c > a) {
                    restart(c);
                }
            }
        }

        void restart(int a) {
            restarted.add(a);
            List<Integer> children = liveChildren(a);
            for (int i = children.size() - 1; i >= 0; i--) {
                stop(children.get(i));
            }
            One o = actors.get(a);
            o.count = 0;
            o.stack.clear();
            o.stack.add(o.own);
            o.notes.clear();
            timers.removeIf(t -> t.actor() == a);
            unstash(o);
        }

        /** The next thing dealt with, as THE LOG tells it; null: nothing. */
        int[] next() {
            for (int k = 0; k < 200; k++) {
                int kind = step();
                if (kind != 1) {
                    return kind == 0 ? null : log.get(log.size() - 1);
                }
            }
            return null;
        }

        int run(int n) {
            for (int made = 0; ; made++) {
                if (!actors.isEmpty() && !actors.get(0).live) {
                    ended = 2;
                    return made;
                }
                if (noStep()) {
                    ended = 1;
                    return made;
                }
                if (made == n) {
                    ended = 0;
                    return made;
                }
                step();
            }
        }

        int live() {
            int bits = 0;
            for (int a = 0; a < actors.size(); a++) {
                bits += actors.get(a).live ? 1 << a : 0;
            }
            return bits;
        }
    }

    private Sys sys = new Sys();
    private Sys kept;
    private String tape = "";
    private final Object[] handles = new Object[6];

    int actor(int parent, int own, int sbw) {
        if (sbw < 0) {
            return BAD;
        }
        return added(parent, own, sbw / 1000, (sbw % 1000) / 100, sbw % 100);
    }

    private int added(int parent, int own, int strategy, int budget, int window) {
        boolean parentBad = parent == -1 ? !sys.actors.isEmpty() : !sys.known(parent);
        if (parentBad || own < 0 || own > 9 || strategy > 2 || budget > 9 || window < 1 || window > 50) {
            return BAD;
        }
        if (parent >= 0 && !sys.actors.get(parent).live) {
            return STATE;
        }
        if (sys.actors.size() == 12) {
            return FULL;
        }
        One o = new One();
        o.parent = parent;
        o.own = own;
        o.strategy = strategy;
        o.budget = budget;
        o.window = window;
        o.stack.add(own);
        sys.actors.add(o);
        return sys.actors.size() - 1;
    }

    int tell(int actor, int from, int n) {
        if (!sys.known(actor) || from < -1 || from >= sys.actors.size() || n < -99 || n > 99) {
            return BAD;
        }
        int before = sys.dead;
        sys.send(actor, from, n);
        return sys.dead > before ? STATE : sys.actors.get(actor).mailbox.size();
    }

    int of(int actor, int what) {
        if (!sys.known(actor) || what < 0 || what > 13) {
            return BAD;
        }
        One o = sys.actors.get(actor);
        int children = 0;
        for (int a = 0; a < sys.actors.size(); a++) {
            children |= sys.actors.get(a).parent == actor ? 1 << a : 0;
        }
        int[] all = {o.parent < 0 ? NOT : o.parent, o.own, o.strategy, o.budget, o.window, o.live ? 1 : 0,
            o.stack.get(o.stack.size() - 1), o.stack.size(), o.mailbox.size(), o.stash.size(), o.watchers.size(),
            (int) sys.timers.stream().filter(t -> t.actor() == actor).count(),
            (int) o.notes.stream().filter(t -> t >= sys.time - o.window).count(), children};
        return all[what];
    }

    int counted(int actor) {
        return sys.known(actor) ? sys.actors.get(actor).count : VOID;
    }

    int message(int actor, int i, boolean stash) {
        if (!sys.known(actor) || i < 0) {
            return BAD;
        }
        List<Message> row = stash ? sys.actors.get(actor).stash : sys.actors.get(actor).mailbox;
        if (i >= row.size()) {
            return NOT;
        }
        int body = row.get(i).body();
        return body >= 200 ? 300 + body - 200 : 100 + body;
    }

    int sender(int actor, int i, boolean stash) {
        if (message(actor, i, stash) < 0) {
            return NOT;
        }
        return (stash ? sys.actors.get(actor).stash : sys.actors.get(actor).mailbox).get(i).from();
    }

    int stack(int actor, int i) {
        return item(actor, i, false);
    }

    int watcher(int actor, int i) {
        return item(actor, i, true);
    }

    private int item(int actor, int i, boolean watchers) {
        if (!sys.known(actor) || i < 0) {
            return BAD;
        }
        List<Integer> row = watchers ? sys.actors.get(actor).watchers : sys.actors.get(actor).stack;
        return i < row.size() ? row.get(i) : NOT;
    }

    int timer(int i, int what) {
        if (i < 0 || what < 0 || what > 2) {
            return BAD;
        }
        if (i >= sys.timers.size()) {
            return NOT;
        }
        Timer t = sys.dueTimers().get(i);
        return List.of(t.actor(), t.due(), 100 + t.n()).get(what);
    }

    int stop(int actor) {
        if (!sys.known(actor)) {
            return BAD;
        }
        return sys.actors.get(actor).live ? sys.stop(actor) : STATE;
    }

    int run(int n) {
        return n < 1 || n > 200 ? BAD : sys.run(n);
    }

    int ended() {
        return sys.ended;
    }

    int log(int i) {
        if (i < 0) {
            return BAD;
        }
        return i < sys.log.size() ? 1000 * sys.log.get(i)[0] + 300 + sys.log.get(i)[1] : NOT;
    }

    int cause(int i, int what) {
        if (i < 0 || what < 0 || what > 1) {
            return BAD;
        }
        return i < sys.causes.size() ? sys.causes.get(i)[what] : NOT;
    }

    int dry(int n, int what) {
        if (n < 1 || n > 200 || what < 0 || what > 5 && what < 10 || what >= 10 && !sys.known(what - 10)) {
            return VOID;
        }
        Sys t = sys.copy();
        int made = t.run(n);
        return what >= 10 ? t.actors.get(what - 10).count
            : new int[] {made, t.ended, t.live(), t.dead, t.clock, t.time}[what];
    }

    int first() {
        Sys t = sys.copy();
        for (int k = 1; k <= 200; k++) {
            t.step();
            if (t.failures > 0) {
                return k;
            }
        }
        return NOT;
    }

    int quiet() {
        Sys t = sys.copy();
        for (int k = 0; k <= 200; k++) {
            if (t.noStep()) {
                return k;
            }
            t.step();
        }
        return NOT;
    }

    Sys thinking() {
        return sys.copy();
    }

    private boolean live(int actor) {
        return sys.known(actor) && sys.actors.get(actor).live;
    }

    int would(int actor, int n, int what) {
        if (!live(actor) || n < -99 || n > 99 || what < 0 || what > 2) {
            return VOID;
        }
        Sys t = sys.copy();
        int why = t.does(actor, new Message(-1, n));
        if (why > 0) {
            t.failed(actor, why);
        }
        One o = t.actors.get(actor);
        return new int[] {o.count, o.live ? 1 : 0, why}[what];
    }

    int brings(int actor, int what) {
        if (!live(actor) || what < 0 || what > 2) {
            return VOID;
        }
        Sys t = sys.copy();
        t.failed(actor, 5);
        int restarted = 0;
        for (int a : t.restarted) {
            restarted |= 1 << a;
        }
        return new int[] {restarted, sys.live() ^ t.live(), t.causes.get(0)[0]}[what];
    }

    int reach(int from, int to) {
        if (!sys.known(from) || !sys.known(to)) {
            return BAD;
        }
        int size = sys.actors.size();
        int[] far = new int[size];
        Arrays.fill(far, -1);
        List<Integer> next = new ArrayList<>();
        if (live(from)) {
            far[from] = 0;
            next.add(from);
        }
        for (int k = 0; k < next.size(); k++) {
            int a = next.get(k);
            for (int b = 0; b < size; b++) {
                boolean way = sys.actors.get(a).parent == b || sys.actors.get(b).parent == a;
                if (way && live(b) && far[b] < 0) {
                    far[b] = far[a] + 1;
                    next.add(b);
                }
            }
        }
        return far[to] < 0 ? NOT : far[to];
    }

    int feed(int letter) {
        if (letter < 0 || letter > 255) {
            return BAD;
        }
        if (tape.length() == 120) {
            return FULL;
        }
        tape += (char) letter;
        return tape.length();
    }

    /** All beginnings of one LINE, as a pattern: a byte goes on if the text so far with it still fits. */
    private static boolean begins(String line) {
        if (line.isEmpty()) {
            return true;
        }
        String two = " \\d\\d?", minus = "( -?\\d?\\d?)", plain = "( \\d?\\d?)";
        if (line.charAt(0) == 'a') {
            return line.matches("a(" + two + "){0,4}" + plain + "?");
        }
        if (line.charAt(0) == 'm') {
            return line.matches("m" + plain + "?") || line.matches("m" + two + minus);
        }
        return line.matches("s" + minus + "?");
    }

    private static boolean whole(String line) {
        return line.matches("a( \\d\\d?){5}") || line.matches("m \\d\\d? -?\\d\\d?") || line.matches("s -?\\d\\d?");
    }

    private int fault() {
        int start = 0;
        for (int i = 0; i < tape.length(); i++) {
            if (tape.charAt(i) == ';') {
                if (!whole(tape.substring(start, i))) {
                    return i;
                }
                start = i + 1;
            } else if (!begins(tape.substring(start, i + 1))) {
                return i;
            }
        }
        return whole(tape.substring(start)) ? -1 : tape.length();
    }

    int script() {
        int fault = fault();
        String text = tape;
        tape = "";
        if (fault >= 0) {
            return -1000 - fault;
        }
        Sys before = sys.copy();
        String[] lines = text.split(";");
        for (int k = 0; k < lines.length; k++) {
            String[] w = lines[k].split(" ");
            int[] v = new int[w.length];
            for (int i = 1; i < w.length; i++) {
                v[i] = Integer.parseInt(w[i]);
            }
            boolean can;
            if (w[0].equals("a")) {
                can = added(v[1] == 99 ? -1 : v[1], v[2], v[3], v[4], v[5]) >= 0;
            } else if (w[0].equals("m")) {
                can = tell(v[1], -1, v[2]) != BAD;
            } else {
                can = v[1] >= 1 && sys.run(v[1]) >= 0;
            }
            if (!can) {
                sys = before;
                return -2000 - k;
            }
        }
        return lines.length;
    }

    int drawn(int n) {
        if (n < 1 || n > 40) {
            return BAD;
        }
        if (sys.actors.isEmpty()) {
            return STATE;
        }
        int before = sys.dead;
        for (int k = 0; k < n; k++) {
            int z = (int) (sys.seed * 1103515245L + 12345L);
            int x = (z >>> 16) & 32767;
            sys.send(x % sys.actors.size(), -1, (x / 12) % 199 - 99);
            sys.seed = z;
        }
        return sys.dead - before;
    }

    int seed(int v) {
        int was = sys.seed;
        sys.seed = v;
        return was;
    }

    int order(int handle, int n) {
        if (handle < 0 || handle > 5) {
            return BAD;
        }
        if (handles[handle] == null) {
            return -11;
        }
        if (!(handles[handle] instanceof int[] row)) {
            return -12;
        }
        if (n < 0) {
            return -14;
        }
        if (2L * n > row.length) {
            return -13;
        }
        Sys t = sys.copy();
        int two = 0;
        for (int k = 0; k < 200 && two < n; k++) {
            int kind = t.step();
            if (kind == 0) {
                return two;
            }
            if (kind == 2) {
                int[] last = t.log.get(t.log.size() - 1);
                if (last[0] != row[2 * two] || last[1] != row[2 * two + 1]) {
                    return two;
                }
                two++;
            }
        }
        return two == n ? NOT : two;
    }

    int image() {
        kept = sys.copy();
        return kept.actors.size();
    }

    int back() {
        if (kept == null) {
            return STATE;
        }
        sys = kept.copy();
        for (int h = 0; h < 6; h++) {
            if (handles[h] instanceof Integer a && !sys.known(a)) {
                handles[h] = null;
            }
        }
        return sys.actors.size();
    }

    int hold(int handle, int actor) {
        if (handle < 0 || handle > 5 || actor != -1 && !sys.known(actor)) {
            return BAD;
        }
        handles[handle] = actor == -1 ? null : (Integer) actor;
        return 1;
    }

    int row(int handle, int n) {
        if (handle < 0 || handle > 5 || n > 60) {
            return BAD;
        }
        if (n < 0) {
            return -14;
        }
        handles[handle] = new int[n];
        return 1;
    }

    int put(int handle, int i, int v) {
        if (handle < 0 || handle > 5 || !(handles[handle] instanceof int[] row) || i < 0 || i >= row.length) {
            return VOID;
        }
        int was = row[i];
        row[i] = v;
        return was;
    }

    int tells(int handle, int as) {
        if (handle < 0 || handle > 5 || as < 0 || as > 3 || handles[handle] == null) {
            return VOID;
        }
        if (!(handles[handle] instanceof Integer number)) {
            return VOID - 12;
        }
        int a = number;
        One o = sys.actors.get(a);
        boolean leaf = of(a, 13) == 0;
        if (as == 0) {
            return a;
        }
        if (as == 1) {
            return leaf ? o.count : VOID - 12;
        }
        if (as == 2) {
            return leaf ? VOID - 12 : sys.liveChildren(a).size();
        }
        return o.live && o.mailbox.isEmpty() ? o.stash.size() : VOID - 12;
    }

    int count(int what) {
        if (what < 0 || what > 9) {
            return BAD;
        }
        int mailed = sys.actors.stream().mapToInt(a -> a.mailbox.size()).sum();
        return new int[] {sys.actors.size(), Integer.bitCount(sys.live()), mailed, sys.timers.size(), sys.dead,
            sys.clock, sys.time, sys.causes.size(), sys.log.size(), tape.length()}[what];
    }
}
