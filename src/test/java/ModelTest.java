import java.util.Random;

/** Random runs of calls, each answered by the class and by the Model; all that can be seen is compared behind each call. */
public final class ModelTest {
    private static final int RUNS = 3000;
    private static final int CALLS = 512;

    private final Check check = new Check("ModelTest");
    private final Random random;
    private final int run;
    private final ActorTrees x = new ActorTrees();
    private final Model m = new Model();
    // What a run is rich in: behaviours, budgets, and how often calls are wrong.
    private final int[] behaviours;
    private final int mostBudget;
    private final int wrongIn;
    private boolean right = true;

    private ModelTest(int run) {
        this.run = run;
        random = new Random(run * 7919L + 17);
        int[][] kinds = {{0, 1, 2, 3, 4, 5, 6, 7, 8, 9}, {5, 7, 5, 1}, {3, 7, 3, 5, 1}, {6, 7, 6, 5, 8}, {8, 9, 8, 7, 5},
            {4, 4, 7, 1}, {2, 1, 7, 2, 0}, {7, 7, 5, 8, 6, 3}};
        behaviours = kinds[run % kinds.length];
        mostBudget = run % 3 == 0 ? 1 : run % 3 == 1 ? 3 : 9;
        wrongIn = run % 5 == 0 ? 4 : 25;
    }

    public static void main(String[] args) {
        int runs = args.length > 0 ? Integer.parseInt(args[0]) : RUNS;
        long answers = 0;
        for (int run = 0; run < runs; run++) {
            ModelTest test = new ModelTest(run);
            answers += test.play();
            if (!test.right) {
                System.out.println("ModelTest: run " + run + " is not as the model has it");
                System.exit(1);
            }
        }
        System.out.println("ModelTest: " + runs + " runs, " + answers + " calls, all as the model has them");
    }

    private int play() {
        int calls = 0;
        while (calls < CALLS && right) {
            calls += call();
            if (random.nextInt(4) == 0) {
                look();
            }
        }
        return calls;
    }

    private void due(String call, int got, int want) {
        check.due("run " + run + ": " + call, got, want);
        right &= check.isClean();
    }

    private int pick(int from, int to) {
        if (random.nextInt(wrongIn) == 0) {
            int[] odd = {from - 1, to + 1, -1, 0, Integer.MIN_VALUE, Integer.MAX_VALUE, 1000, from, to};
            return odd[random.nextInt(odd.length)];
        }
        return from + random.nextInt(to - from + 1);
    }

    private int anActor() {
        return pick(0, Math.max(0, m.count(0) - 1));
    }

    private int aNumber() {
        return random.nextInt(3) == 0 ? pick(-99, 99) : pick(-3, 12);
    }

    private int call() {
        switch (random.nextInt(26)) {
            case 0: case 1: case 2: return makeActor();
            case 3: case 4: case 5: case 6: case 7: return tell();
            case 8: case 9: case 10: case 11: return steps();
            case 12: return stop();
            case 13: case 14: return think();
            case 15: return text();
            case 16: return drawn();
            case 17: return seed();
            case 18: return order();
            case 19: return image();
            case 20: return holds();
            case 21: return rows();
            default: return observe();
        }
    }

    private int makeActor() {
        int parent = m.count(0) == 0 && random.nextInt(8) != 0 ? -1 : anActor();
        int own = random.nextInt(6) == 0 ? pick(0, 9) : behaviours[random.nextInt(behaviours.length)];
        int window = random.nextInt(3) == 0 ? pick(1, 50) : pick(1, 6);
        int sbw = 1000 * pick(0, 2) + 100 * pick(0, mostBudget) + window;
        due("actor(" + parent + ", " + own + ", " + sbw + ")", x.actor(parent, own, sbw), m.actor(parent, own, sbw));
        return 1;
    }

    private int tell() {
        int many = 1 + random.nextInt(random.nextInt(5) == 0 ? 14 : 3);
        int a = anActor();
        for (int k = 0; k < many; k++) {
            int from = random.nextBoolean() ? -1 : anActor();
            int n = aNumber();
            due("tell(" + a + ", " + from + ", " + n + ")", x.tell(a, from, n), m.tell(a, from, n));
        }
        return many;
    }

    private int steps() {
        int n = random.nextInt(4) == 0 ? pick(1, 200) : pick(1, 12);
        due("run(" + n + ")", x.run(n), m.run(n));
        due("ended()", x.ended(), m.ended());
        return 2;
    }

    private int stop() {
        int a = anActor();
        if (a == 0 && random.nextInt(10) != 0) {
            return 0;
        }
        due("stop(" + a + ")", x.stop(a), m.stop(a));
        return 1;
    }

    private int think() {
        int n = random.nextInt(3) == 0 ? pick(1, 200) : pick(1, 20);
        int what = random.nextBoolean() ? pick(0, 5) : 10 + anActor();
        due("dry(" + n + ", " + what + ")", x.dry(n, what), m.dry(n, what));
        due("first()", x.first(), m.first());
        due("quiet()", x.quiet(), m.quiet());
        int a = anActor();
        int number = aNumber();
        int which = pick(0, 2);
        due("would(" + a + ", " + number + ", " + which + ")", x.would(a, number, which), m.would(a, number, which));
        due("brings(" + a + ", " + which + ")", x.brings(a, which), m.brings(a, which));
        int to = anActor();
        due("reach(" + a + ", " + to + ")", x.reach(a, to), m.reach(a, to));
        return 6;
    }

    private String aLine() {
        int kind = random.nextInt(5);
        if (kind == 0) {
            int parent = m.count(0) == 0 ? 99 : random.nextInt(m.count(0) + 1);
            return "a " + parent + " " + random.nextInt(random.nextInt(9) == 0 ? 13 : 10) + " " + random.nextInt(3) + " " + random.nextInt(10)
                + " " + (1 + random.nextInt(random.nextInt(9) == 0 ? 60 : 50));
        }
        if (kind < 4) {
            return "m " + random.nextInt(m.count(0) + (random.nextInt(4) == 0 ? 2 : 1)) + " " + (random.nextInt(60) - 20);
        }
        return "s " + (random.nextInt(12) == 0 ? -random.nextInt(4) : 1 + random.nextInt(99));
    }

    private int text() {
        StringBuilder text = new StringBuilder();
        int lines = random.nextInt(6);
        for (int k = 0; k < lines; k++) {
            text.append(k > 0 ? ";" : "").append(aLine());
        }
        if (random.nextInt(3) == 0 && text.length() > 0) {
            int place = random.nextInt(text.length());
            String signs = " ;-0123456789amsx";
            switch (random.nextInt(4)) {
                case 0: text.setCharAt(place, signs.charAt(random.nextInt(signs.length()))); break;
                case 1: text.insert(place, signs.charAt(random.nextInt(signs.length()))); break;
                case 2: text.deleteCharAt(place); break;
                default: text.setLength(place); break;
            }
        }
        for (int i = 0; i < text.length(); i++) {
            due("feed(" + (int) text.charAt(i) + ")", x.feed(text.charAt(i)), m.feed(text.charAt(i)));
        }
        if (random.nextInt(12) == 0) {
            int letter = pick(0, 255);
            due("feed(" + letter + ")", x.feed(letter), m.feed(letter));
        }
        if (random.nextInt(12) != 0) {
            due("script() of " + text, x.script(), m.script());
        }
        return text.length() + 1;
    }

    private int drawn() {
        int n = random.nextInt(3) == 0 ? pick(1, 40) : pick(1, 5);
        due("drawn(" + n + ")", x.drawn(n), m.drawn(n));
        return 1;
    }

    private int seed() {
        int v = random.nextInt();
        due("seed(" + v + ")", x.seed(v), m.seed(v));
        return 1;
    }

    private int order() {
        int handle = pick(0, 5);
        int n = random.nextInt(12);
        due("row(" + handle + ", " + 2 * n + ")", x.row(handle, 2 * n), m.row(handle, 2 * n));
        // Told rightly at first, by a second object that goes ahead as the first one will.
        Model.Sys guess = m.thinking();
        for (int k = 0; k < n; k++) {
            int[] next = guess.next();
            boolean right = next != null && random.nextInt(20) != 0;
            int a = right ? next[0] : random.nextInt(12);
            int number = right ? next[1] : random.nextInt(20);
            due("put", x.put(handle, 2 * k, a), m.put(handle, 2 * k, a));
            due("put", x.put(handle, 2 * k + 1, number), m.put(handle, 2 * k + 1, number));
        }
        int asked = random.nextInt(4) == 0 ? pick(0, 30) : n;
        int asks = random.nextInt(4) == 0 ? pick(0, 5) : handle;
        due("order(" + asks + ", " + asked + ")", x.order(asks, asked), m.order(asks, asked));
        return 2 * n + 2;
    }

    private int image() {
        if (random.nextInt(3) != 0) {
            due("image()", x.image(), m.image());
        } else {
            due("back()", x.back(), m.back());
        }
        return 1;
    }

    private int holds() {
        int handle = pick(0, 5);
        int a = random.nextInt(5) == 0 ? -1 : anActor();
        due("hold(" + handle + ", " + a + ")", x.hold(handle, a), m.hold(handle, a));
        return 1;
    }

    private int rows() {
        int handle = pick(0, 5);
        int n = pick(0, 60);
        due("row(" + handle + ", " + n + ")", x.row(handle, n), m.row(handle, n));
        int i = pick(0, 60);
        int v = random.nextInt();
        due("put(" + handle + ", " + i + ", " + v + ")", x.put(handle, i, v), m.put(handle, i, v));
        due("put(" + handle + ", " + i + ", 3)", x.put(handle, i, 3), m.put(handle, i, 3));
        return 3;
    }

    private int observe() {
        int a = anActor();
        int i = pick(0, 12);
        int what = pick(0, 13);
        boolean stash = random.nextBoolean();
        due("of(" + a + ", " + what + ")", x.of(a, what), m.of(a, what));
        due("message(" + a + ", " + i + ")", x.message(a, i, stash), m.message(a, i, stash));
        due("sender(" + a + ", " + i + ")", x.sender(a, i, stash), m.sender(a, i, stash));
        due("stack(" + a + ", " + i + ")", x.stack(a, i), m.stack(a, i));
        due("watcher(" + a + ", " + i + ")", x.watcher(a, i), m.watcher(a, i));
        due("timer(" + i + ", " + what % 4 + ")", x.timer(i, what % 4), m.timer(i, what % 4));
        due("cause(" + i + ", " + what % 3 + ")", x.cause(i, what % 3), m.cause(i, what % 3));
        int handle = pick(0, 5);
        due("tells(" + handle + ", " + what % 5 + ")", x.tells(handle, what % 5), m.tells(handle, what % 5));
        return 8;
    }

    /** Nothing may differ that can be seen: what is answered BAD or only thought has changed nothing. */
    private void look() {
        for (int what = -1; what <= 10; what++) {
            due("count(" + what + ")", x.count(what), m.count(what));
        }
        for (int a = 0; a <= m.count(0); a++) {
            due("counted(" + a + ")", x.counted(a), m.counted(a));
            for (int what = 0; what <= 14; what++) {
                due("of(" + a + ", " + what + ")", x.of(a, what), m.of(a, what));
            }
            for (int i = 0; i <= 12; i++) {
                due("message", x.message(a, i, false), m.message(a, i, false));
                due("sender of " + a + " at " + i, x.sender(a, i, false), m.sender(a, i, false));
                due("stash", x.message(a, i, true), m.message(a, i, true));
                due("stash sender", x.sender(a, i, true), m.sender(a, i, true));
                due("stack", x.stack(a, i), m.stack(a, i));
                due("watcher", x.watcher(a, i), m.watcher(a, i));
            }
        }
        for (int i = 0; i <= 30; i++) {
            due("log(" + i + ")", x.log(i), m.log(i));
            for (int what = 0; what <= 2; what++) {
                due("timer(" + i + ", " + what + ")", x.timer(i, what), m.timer(i, what));
                due("cause(" + i + ", " + what + ")", x.cause(i, what), m.cause(i, what));
            }
        }
        for (int handle = 0; handle <= 5; handle++) {
            for (int as = 0; as <= 3; as++) {
                due("tells(" + handle + ", " + as + ")", x.tells(handle, as), m.tells(handle, as));
            }
        }
        due("ended()", x.ended(), m.ended());
    }
}
