/** Edges of the document's "Terms", 2 and 3, in their order. */
final class RunEdges extends Edges {
    private RunEdges() {
    }

    static void tell() {
        runs();
        log();
        dry();
        dryOfAnother();
        firstAndQuiet();
        would();
        bringsAndReach();
        order();
        drawn();
        textBytes();
        textForm();
        textFaults();
        textLines();
        textUndone();
        image();
        handles();
        sorts();
        answers();
    }

    /** 199 STEPS: 100 numbers dealt with, 99 TIMERS between. */
    private static ActorTrees of199Steps() {
        ActorTrees x = broom(SOME, DELAY, SUM);
        tellAll(x, 0, 99);
        return x;
    }

    // ---- 2 RUN

    private static void runs() {
        edge(TERMS, "2 RUN: STEPS, as many as told, or as there are", broken(
            "made < most && ==> made <= most &&",
            "made < most && ==> made + 1 < most &&"), () -> {
            ActorTrees x = broom(SOME, SUM);
            tellAll(x, 0, 1, 2, 3, 4, 5, 6);
            due("run(1)", x.run(1), 1);
            due("run(3)", x.run(3), 3);
            due("counted(0)", x.counted(0), 10);
            due("run(2)", x.run(2), 2);
            tellAll(x, 0, 1, 2);
            due("run(200)", x.run(200), 2);
            due("run(200)", x.run(200), 0);
        });
        String ends = "it ends (looked for at first, and behind each STEP, in this order): 2 THE ROOT is STOPPED; 1 there is no STEP more; 0 so many were made.";
        edge(TERMS, ends + " -- at first: DOWN", broken("if (came > 0 && !isLive(THE_ROOT)) { ==> if (false) {"), () -> {
            ActorTrees x = broom(SOME, SUM, SUM);
            due("stop(0)", x.stop(0), 2);
            due("run(1)", x.run(1), 0);
            due("ended()", x.ended(), 2);
        });
        edge(TERMS, ends + " -- at first: no STEP", broken(
            "ended = howItStands();\n            while ==> ended = ENDED_MADE;\n            while"), () -> {
            ActorTrees x = broom(SOME, SUM);
            due("run(1)", x.run(1), 0);
            due("ended()", x.ended(), 1);
        });
        edge(TERMS, ends + " -- at first: no ACTORS", broken("if (came > 0 && !isLive(THE_ROOT)) { ==> if (!isLive(THE_ROOT)) {"), () -> {
            ActorTrees x = new ActorTrees();
            due("run(200)", x.run(200), 0);
            due("ended()", x.ended(), 1);
        });
        edge(TERMS, ends + " -- behind the last STEP told", broken(
            "made++;\n                ended = howItStands(); ==> made++;\n                ended = made < most ? howItStands() : ENDED_MADE;"), () -> {
            ActorTrees x = broom(SOME, SUM);
            tellAll(x, 0, 1, 2);
            due("run(1)", x.run(1), 1);
            due("ended()", x.ended(), 0);
            due("run(1)", x.run(1), 1);
            due("ended()", x.ended(), 1);
            ActorTrees y = broom(SOME, QUIT);
            tellAll(y, 0, 1, 2);
            due("run(1)", y.run(1), 1);
            due("ended()", y.ended(), 2);
        });
        edge(TERMS, ends + " -- a TIMER is a STEP more", broken(
            "return timers.size > 0 || nextDealer() != NONE; ==> return nextDealer() != NONE;"), () -> {
            ActorTrees x = broom(SOME, DELAY);
            tellAll(x, 0, 1);
            due("run(1)", x.run(1), 1);
            due("ended()", x.ended(), 0);
            due("run(1)", x.run(1), 1);
            due("ended()", x.ended(), 0);
            due("run(1)", x.run(1), 1);
            due("ended()", x.ended(), 1);
        });
        edge(TERMS, ends + " -- 200 of 200", broken("MOST_STEPS = 200 ==> MOST_STEPS = 199"), () -> {
            ActorTrees x = of199Steps();
            tellAll(x, 1, 1, 2);
            due("run(200)", x.run(200), 200);
            due("ended()", x.ended(), 0);
            due("run(200)", x.run(200), 1);
            due("ended()", x.ended(), 1);
        });
    }

    private static void log() {
        String told = "THE LOG: of what was dealt with latest (30): the ACTOR, n (THE DEATH of x: 200 and x).";
        edge(TERMS, told + " -- 30 and one more", broken(
            "MOST_LOG = 30 ==> MOST_LOG = 29",
            "MOST_LOG = 30 ==> MOST_LOG = 31",
            "if (size == firsts.length) {\n                removeFirst(); ==> if (size > firsts.length) {\n                removeFirst();"), () -> {
            ActorTrees x = broom(SOME, SUM);
            for (int k = 0; k < 30; k++) {
                dealt(x, 0, k);
            }
            due("count(8)", x.count(8), 30);
            due("log(0)", x.log(0), 300);
            due("log(29)", x.log(29), 329);
            dealt(x, 0, 30);
            due("count(8)", x.count(8), 30);
            due("log(0)", x.log(0), 301);
            due("log(29)", x.log(29), 330);
        });
        edge(TERMS, told + " -- THE DEATH of 11; a TIMER is none", broken(
            "dealt.addDroppingOldest(dealer, body); ==> dealt.addDroppingOldest(dealer, Math.min(body, DEATH));",
            "time = timers.dueAt(0); ==> time = timers.dueAt(0); dealt.add(owner, n);"), () -> {
            ActorTrees x = broom(SOME, WATCH, DELAY, 0, 0, 0, 0, 0, 0, 0, 0, 0, 0);
            dealt(x, 0, 11);
            dealt(x, 1, 1);
            due("a TIMER", x.run(1), 1);
            due("count(8)", x.count(8), 2);
            due("stop(11)", x.stop(11), 1);
            due("run(9)", x.run(9), 2);
            due("log(2)", x.log(2), 511);
            due("log(3)", x.log(3), 1300);
        });
    }

    // ---- in thought

    private static void dry() {
        edge(TERMS, "DRY: n STEPS (1 .. 200)", broken(
            "return n >= 1 && n <= MOST_STEPS; ==> return n >= 0 && n <= MOST_STEPS;",
            "return n >= 1 && n <= MOST_STEPS; ==> return n > 1 && n <= MOST_STEPS;",
            "return n >= 1 && n <= MOST_STEPS; ==> return n >= 1 && n < MOST_STEPS;",
            "return n >= 1 && n <= MOST_STEPS; ==> return n >= 1;"), () -> {
            ActorTrees x = of199Steps();
            tellAll(x, 1, 1, 2);
            due("dry(0, 0)", x.dry(0, 0), VOID);
            due("dry(201, 0)", x.dry(201, 0), VOID);
            due("dry(1, 0)", x.dry(1, 0), 1);
            due("dry(200, 0)", x.dry(200, 0), 200);
        });
        edge(TERMS, "how many are made, how it ends, COUNTS, who is LIVE, DEAD LETTERS then -- those of ahead, too", broken(
            "case 3: return thought.deadLetters; ==> case 3: return thought.deadLetters - now.deadLetters;"), () -> {
            ActorTrees x = broom(SOME, ECHO, SUM, QUIT);
            due("stop(1)", x.stop(1), 1);
            due("tell(1)", x.tell(1, -1, 5), STATE);
            due("tell(0, 1, 5)", x.tell(0, 1, 5), 1);
            tellAll(x, 2, 1);
            due("dry(9, 0)", x.dry(9, 0), 2);
            due("dry(9, 1)", x.dry(9, 1), 1);
            due("dry(9, 2)", x.dry(9, 2), 1);
            due("dry(9, 3)", x.dry(9, 3), 2);
            due("dry(1, 2)", x.dry(1, 2), 5);
            due("dry(1, 3)", x.dry(1, 3), 2);
        });
        edge(TERMS, "how many are made, how it ends, COUNTS, who is LIVE, DEAD LETTERS then -- nothing is made in deed", broken(
            "int made = thought.makeSteps(n); ==> int made = now.makeSteps(n); thought.copyFrom(now);",
            "thought.hasFailed = false; ==> thought.hasFailed = false; now.step();",
            "int why = thought.deal(actor, NONE, n); ==> int why = now.deal(actor, NONE, n);",
            "thought.restarted = 0; ==> thought.restarted = 0; now.fail(actor, WHY_THOUGHT);"), () -> {
            ActorTrees x = broom(105, FAN, FRAIL, DELAY, QUIT, HOLD);
            ActorTrees y = broom(105, FAN, FRAIL, DELAY, QUIT, HOLD);
            for (ActorTrees one : new ActorTrees[] {x, y}) {
                dealt(one, 2, 5);
                tellAll(one, 0, 3, 1);
                tellAll(one, 4, 7, 8);
            }
            for (int what = 0; what <= 5; what++) {
                x.dry(150, what);
            }
            x.dry(150, 11);
            x.first();
            x.quiet();
            for (int a = 0; a < 5; a++) {
                x.would(a, 7, 0);
                x.brings(a, 1);
                x.reach(a, 4);
            }
            due("rows of twos", x.row(0, 4), 1);
            x.order(0, 2);
            sameSeen("thoughts", x, y);
            due("run(3)", x.run(3), 3);
            due("run(3)", y.run(3), 3);
            due("log(3)", x.log(3), y.log(3));
        });
    }

    /** 1 and 2 of an object that had others in their place: all in thought must be of those that are. */
    private static ActorTrees anew() {
        ActorTrees x = new ActorTrees();
        due("actor(-1)", x.actor(-1, SUM, 2110), 0);
        due("image()", x.image(), 1);
        due("actor(0)", x.actor(0, FRAIL, 1001), 1);
        due("actor(1)", x.actor(1, QUIT, 902), 2);
        dealt(x, 1, 7);
        due("dry(9, 0)", x.dry(9, 0), 0);
        due("back()", x.back(), 1);
        due("actor(0)", x.actor(0, SUM, 150), 1);
        due("actor(0)", x.actor(0, FRAIL, 1), 2);
        return x;
    }

    private static void dryOfAnother() {
        edge(TERMS, "In thought: -- of those that are there now", broken(
            "own = other.own; ==> ",
            "parent = other.parent; ==> parent = parent == 0 ? other.parent : parent;",
            "count = other.count; ==> ",
            "stack.copyFrom(other.stack); ==> "), () -> {
            ActorTrees x = anew();
            due("brings(2, 0)", x.brings(2, 0), 4);
            due("brings(1, 0)", x.brings(1, 0), 6);
            due("brings(1, 1)", x.brings(1, 1), 0);
            due("would(1, -5, 0)", x.would(1, -5, 0), -5);
            due("would(2, 5, 0)", x.would(2, 5, 0), 5);
            tellAll(x, 1, 4);
            due("dry(9, 11)", x.dry(9, 11), 4);
            due("would(1, 1, 1)", x.would(1, 1, 1), 1);
            // RESTARTED in thought, it DOES its OWN BEHAVIOUR.
            ActorTrees y = broom(SOME, SUM, SWITCH);
            due("image()", y.image(), 2);
            due("actor(0)", y.actor(0, SUM, SOME), 2);
            due("dry(9, 0)", y.dry(9, 0), 0);
            due("back()", y.back(), 2);
            due("actor(0)", y.actor(0, FRAIL, SOME), 2);
            tellAll(y, 2, 5, 4, 3, 2);
            due("dry(2, 12)", y.dry(2, 12), 0);
            due("dry(3, 12)", y.dry(3, 12), 3);
            due("dry(4, 12)", y.dry(4, 12), 0);
        });
        edge(TERMS, "In thought: -- by the WATCHERS and by what was noted there now", broken(
            "watchers.copyFrom(other.watchers); ==> ",
            "notes.copyFrom(other.notes); ==> "), () -> {
            ActorTrees x = broom(SOME, SUM, WATCH, QUIT);
            dealt(x, 1, 2);
            tellAll(x, 2, 1);
            due("dry(9, 11)", x.dry(9, 11), 102);
            ActorTrees y = broom(150, SUM, FRAIL);
            dealt(y, 1, -1);
            due("brings(1, 1)", y.brings(1, 1), 3);
        });
        edge(TERMS, "In thought: -- within a WINDOW; with ten TIMERS", broken(
            "window = other.window; ==> ",
            "size = Math.max(0, Math.min(other.size, MOST_TIMERS)); ==> size = Math.max(0, Math.min(other.size, MOST_TIMERS - 1));"), () -> {
            ActorTrees x = broom(102, SUM, FRAIL, DELAY);
            dealt(x, 1, -1);
            dealt(x, 2, 1);
            due("run(1)", x.run(1), 1);
            due("count(6)", x.count(6), 2);
            due("brings(1, 1)", x.brings(1, 1), 7);
            ActorTrees y = broom(SOME, DELAY);
            dealt(y, 0, 1, 1, 1, 1, 1, 1, 1, 1, 1, 1);
            due("quiet()", y.quiet(), 20);
        });
        edge(TERMS, "In thought: -- by the BUDGET, WINDOW and STRATEGY there now", broken(
            "budget = other.budget; ==> budget = budget == 0 ? other.budget : budget;",
            "strategy = other.strategy; ==> strategy = strategy == 0 ? other.strategy : strategy;",
            "window = other.window; ==> window = window == 0 ? other.window : window;"), () -> {
            ActorTrees x = new ActorTrees();
            due("actor(-1)", x.actor(-1, SUM, 950), 0);
            due("image()", x.image(), 1);
            due("actor(0)", x.actor(0, SUM, 1950), 1);
            due("dry(9, 0)", x.dry(9, 0), 0);
            due("back()", x.back(), 1);
            due("actor(0)", x.actor(0, SUM, 2101), 1);
            due("actor(1)", x.actor(1, SUM, SOME), 2);
            due("actor(1)", x.actor(1, FRAIL, SOME), 3);
            due("actor(0)", x.actor(0, DELAY, SOME), 4);
            due("brings(3, 0)", x.brings(3, 0), 8);
            dealt(x, 3, -1);
            due("brings(3, 0)", x.brings(3, 0), 2);
            dealt(x, 4, 1);
            due("run(2)", x.run(2), 2);
            due("count(6)", x.count(6), 2);
            due("brings(3, 0)", x.brings(3, 0), 8);
        });
    }

    /** 0 FANS to 1, which ECHOES, and 2, which HOLDS: it FAILS by the 201st STEP. */
    private static ActorTrees failsBehind200() {
        ActorTrees x = broom(SOME, FAN, ECHO, HOLD);
        due("tell(0, 0, 62)", x.tell(0, 0, 62), 1);
        return x;
    }

    private static void firstAndQuiet() {
        String first = "FIRST: behind how many STEPS (1 .. 200) one FAILS first (any of them: RESTARTED, passed on); NOT.";
        edge(TERMS, first + " -- by the first and by a later STEP", broken(
            "if (thought.hasFailed) {\n                return made; ==> if (thought.hasFailed) {\n                return made - 1;"), () -> {
            ActorTrees x = broom(SOME, SUM, FRAIL);
            tellAll(x, 1, -1);
            due("first()", x.first(), 1);
            x = broom(SOME, SUM, FRAIL);
            tellAll(x, 1, 5, 5, 4);
            due("first()", x.first(), 3);
            due("count(7)", x.count(7), 0);
        });
        edge(TERMS, first + " -- the 200th, and one more", broken(
            "made <= MOST_STEPS; made++) {\n            if ==> made < MOST_STEPS; made++) {\n            if",
            "made <= MOST_STEPS; made++) {\n            if ==> made <= MOST_STEPS + 1; made++) {\n            if"), () -> {
            ActorTrees x = failsBehind200();
            due("first()", x.first(), NOT);
            due("run(1)", x.run(1), 1);
            due("first()", x.first(), 200);
        });
        edge(TERMS, first + " -- none", broken("thought.hasFailed = false; ==> "), () -> {
            ActorTrees x = new ActorTrees();
            due("first()", x.first(), NOT);
            x = broom(SOME, SUM, QUIT);
            tellAll(x, 0, 1);
            tellAll(x, 1, 1);
            due("brings(1, 0)", x.brings(1, 0), 2);
            due("first()", x.first(), NOT);
        });
        edge(TERMS, first + " -- THE ROOT itself; passed on to it", broken(
            "hasFailed = true; ==> hasFailed = a != THE_ROOT;",
            "hasFailed = true; ==> hasFailed = actors[THE_ROOT].budget > 0;"), () -> {
            ActorTrees x = broom(SOME, FRAIL);
            tellAll(x, 0, 1, 0);
            due("first()", x.first(), 2);
            x = chain(1, SUM, SUM, FRAIL);
            tellAll(x, 2, -1);
            due("first()", x.first(), 1);
        });
        String quiet = "QUIET: behind how many (0 .. 200) there is no STEP more; NOT.";
        edge(TERMS, quiet + " -- 0", broken(
            "for (int made = 0; made < MOST_STEPS; made++) { ==> for (int made = 1; made < MOST_STEPS; made++) {"), () -> {
            ActorTrees x = new ActorTrees();
            due("quiet()", x.quiet(), 0);
            x = broom(SOME, SUM);
            due("quiet()", x.quiet(), 0);
            tellAll(x, 0, 1);
            due("quiet()", x.quiet(), 1);
            due("stop(0)", x.stop(0), 1);
            due("quiet()", x.quiet(), 0);
        });
        edge(TERMS, quiet + " -- 200, and one more", broken(
            "return thought.hasStep() ? NOT : MOST_STEPS; ==> return NOT;",
            "return thought.hasStep() ? NOT : MOST_STEPS; ==> return MOST_STEPS;"), () -> {
            ActorTrees x = of199Steps();
            due("quiet()", x.quiet(), 199);
            tellAll(x, 1, 1);
            due("quiet()", x.quiet(), 200);
            tellAll(x, 1, 1);
            due("quiet()", x.quiet(), NOT);
        });
    }

    private static void would() {
        edge(TERMS, "WOULD: an ACTOR deals with a number (from -1) now, ahead of its MAILBOX -- which has 12", broken(
            "int why = thought.deal(actor, NONE, n); ==> int why = thought.send(actor, NONE, n) ? thought.deal(actor, NONE, n) : WHY_NONE;"), () -> {
            ActorTrees x = broom(SOME, SUM);
            tellAll(x, 0, 9, 9, 9, 9, 9, 9, 9, 9, 9, 9, 9, 9);
            due("would(0, 5, 0)", x.would(0, 5, 0), 5);
            due("of(0, 8)", x.of(0, 8), 12);
        });
        String told = "its COUNT then; whether it is LIVE; the why of its failure (0: none)";
        edge(TERMS, told + " -- RESTARTED", broken(
            "if (why != WHY_NONE) {\n            thought.fail(actor, why); ==> if (false) {\n            thought.fail(actor, why);"), () -> {
            ActorTrees x = broom(SOME, SUM, FRAIL);
            dealt(x, 1, 7);
            due("would(1, 7, 0)", x.would(1, 7, 0), 7);
            due("would(1, 7, 2)", x.would(1, 7, 2), 0);
            due("would(1, 6, 0)", x.would(1, 6, 0), 0);
            due("would(1, 6, 1)", x.would(1, 6, 1), 1);
            due("would(1, 6, 2)", x.would(1, 6, 2), 1);
        });
        edge(TERMS, told + " -- passed on, and STOPPED by it", broken(
            "return what == 2 ? why : ==> return what == 2 ? thought.causes.secondAt(thought.causes.size - 1) :"), () -> {
            ActorTrees x = broom(50, SUM, FRAIL);
            dealt(x, 1, 7);
            due("would(1, 6, 0)", x.would(1, 6, 0), 7);
            due("would(1, 6, 1)", x.would(1, 6, 1), 0);
            due("would(1, 6, 2)", x.would(1, 6, 2), 1);
        });
        edge(TERMS, told + " -- it QUITS", broken("thought.isLive(actor) ? 1 : 0 ==> why == WHY_NONE ? 1 : 0"), () -> {
            ActorTrees x = broom(SOME, SUM, QUIT);
            due("would(1, 0, 0)", x.would(1, 0, 0), 0);
            due("would(1, 0, 1)", x.would(1, 0, 1), 0);
            due("would(1, 0, 2)", x.would(1, 0, 2), 0);
        });
        edge(TERMS, told + " -- a full STASH, a full STACK", broken(
            "stash.copyFrom(other.stash); ==> ",
            "stack.copyFrom(other.stack); ==> "), () -> {
            ActorTrees x = broom(SOME, SUM, HOLD, SWITCH);
            dealt(x, 1, 1, 3, 5, 7, 9);
            due("would(1, 11, 2)", x.would(1, 11, 2), 0);
            dealt(x, 1, 11);
            due("would(1, 13, 2)", x.would(1, 13, 2), 3);
            due("would(1, 12, 2)", x.would(1, 12, 2), 0);
            dealt(x, 2, 4, 4, 4);
            due("would(2, 0, 2)", x.would(2, 0, 2), 0);
            dealt(x, 2, 4);
            due("would(2, 0, 2)", x.would(2, 0, 2), 4);
            due("would(2, -1, 2)", x.would(2, -1, 2), 0);
        });
    }

    private static void bringsAndReach() {
        String brings = "BRINGS of an ACTOR: it would FAIL now (why 5): RESTARTED ones (bits), those that STOPPED by it, the first of CAUSES.";
        edge(TERMS, brings + " -- THE ROOT", broken(
            "return now.liveBits() & ~thought.liveBits(); ==> return ~thought.liveBits() & 4095;"), () -> {
            ActorTrees x = twelve(SUM);
            due("stop(5)", x.stop(5), 1);
            due("brings(0, 0)", x.brings(0, 0), 0);
            due("brings(0, 1)", x.brings(0, 1), 4095 - 32);
            due("brings(0, 2)", x.brings(0, 2), 0);
            due("count(1)", x.count(1), 11);
        });
        edge(TERMS, brings + " -- the last of 12, and one alone", broken(
            "restarted |= 1 << a; ==> restarted |= 1 << a & 7;",
            "thought.restarted = 0; ==> "), () -> {
            ActorTrees x = broom(2909, 0, 0, 0, 0, 0, 0, 0, 0, 0, 0, 0, 0);
            due("brings(1, 0)", x.brings(1, 0), 4094);
            due("brings(11, 0)", x.brings(11, 0), 2048);
            due("brings(11, 1)", x.brings(11, 1), 0);
            due("brings(11, 2)", x.brings(11, 2), 11);
        });
        edge(TERMS, brings + " -- passed on", broken("return thought.causes.firstAt(thought.causes.size - 1); ==> return actor;"), () -> {
            ActorTrees x = new ActorTrees();
            due("actor(-1)", x.actor(-1, SUM, 101), 0);
            due("actor(0)", x.actor(0, SUM, 1), 1);
            due("actor(1)", x.actor(1, SUM, 1), 2);
            due("brings(2, 0)", x.brings(2, 0), 2);
            due("brings(2, 1)", x.brings(2, 1), 4);
            due("brings(2, 2)", x.brings(2, 2), 1);
            due("of(0, 12)", x.of(0, 12), 0);
            due("count(7)", x.count(7), 0);
        });
        String reach = "REACH of two: the least number of ways, each from a PARENT to a CHILD or back, from one to the other, by LIVE ones alone (both, too); NOT.";
        edge(TERMS, reach + " -- to itself", broken(
            "if (one == other) {\n                return ways; ==> if (one == other) {\n                return ways == 0 ? NOT : ways;"), () -> {
            ActorTrees x = broom(SOME, SUM, SUM);
            due("reach(0, 0)", x.reach(0, 0), 0);
            due("reach(1, 1)", x.reach(1, 1), 0);
        });
        edge(TERMS, reach + " -- as far as can be", broken(
            "ways < 2 * MOST_ACTORS ==> ways < 11",
            "if (one > other) { ==> if (one < other) {"), () -> {
            ActorTrees x = chain(SOME, 0, 0, 0, 0, 0, 0, 0, 0, 0, 0, 0, 0);
            due("reach(0, 11)", x.reach(0, 11), 11);
            due("reach(11, 0)", x.reach(11, 0), 11);
            due("reach(4, 5)", x.reach(4, 5), 1);
            // Two branches: 1, 3, 5, 7, 9 and 2, 4, 6, 8, 10, 11.
            ActorTrees y = broom(SOME, SUM, SUM, SUM);
            for (int a = 3; a < 11; a++) {
                due("actor", y.actor(a - 2, SUM, SOME), a);
            }
            due("actor", y.actor(10, SUM, SOME), 11);
            due("reach(9, 11)", y.reach(9, 11), 11);
            due("reach(11, 9)", y.reach(11, 9), 11);
            due("reach(1, 2)", y.reach(1, 2), 2);
        });
        edge(TERMS, reach + " -- by a STOPPED one; to one; from one; itself", broken(
            "if (!now.isLive(one) || !now.isLive(other)) { ==> if (!now.isLive(one) || !now.isActor(other)) {",
            "if (!now.isLive(one) || !now.isLive(other)) { ==> if (!now.isActor(one) || !now.isLive(other)) {",
            "if (!now.isLive(one) || !now.isLive(other)) { ==> if (false) {"), () -> {
            ActorTrees x = broom(SOME, SUM, SUM, SUM);
            due("stop(1)", x.stop(1), 1);
            due("reach(1, 1)", x.reach(1, 1), NOT);
            due("reach(0, 1)", x.reach(0, 1), NOT);
            due("reach(1, 0)", x.reach(1, 0), NOT);
            due("reach(1, 2)", x.reach(1, 2), NOT);
            due("reach(2, 1)", x.reach(2, 1), NOT);
            due("reach(0, 2)", x.reach(0, 2), 1);
        });
    }

    private static void order() {
        String otherwise = "the first two (from 0) by which it is otherwise";
        edge(TERMS, otherwise + " -- by the ACTOR, by n", broken(
            "thought.dealt.firstAt(last) != twos.at(2 * met) || ==> ",
            "|| thought.dealt.secondAt(last) != twos.at(2 * met + 1) ==> "), () -> {
            ActorTrees x = broom(SOME, SUM, SUM);
            tellAll(x, 0, 5);
            tellAll(x, 1, 6);
            rowOf(x, 0, 0, 5, 1, 6);
            due("order(0, 2)", x.order(0, 2), NOT);
            rowOf(x, 0, 1, 5, 1, 6);
            due("order(0, 2)", x.order(0, 2), 0);
            rowOf(x, 0, 0, -5, 1, 6);
            due("order(0, 2)", x.order(0, 2), 0);
            rowOf(x, 0, 0, 5, 0, 6);
            due("order(0, 2)", x.order(0, 2), 1);
            rowOf(x, 0, 0, 5, 1, 306);
            due("order(0, 2)", x.order(0, 2), 1);
            rowOf(x, 0, LOW, HIGH, 1, 6);
            due("order(0, 2)", x.order(0, 2), 0);
        });
        edge(TERMS, "twos (ACTOR, n as in THE LOG) of the next things that are dealt with -- THE DEATH: 200 and x", broken(
            "DEATH = 200; ==> DEATH = 201;"), () -> {
            ActorTrees x = twelve(WATCH);
            dealt(x, 0, 11);
            due("stop(11)", x.stop(11), 1);
            rowOf(x, 0, 0, 211);
            due("order(0, 1)", x.order(0, 1), NOT);
            rowOf(x, 0, 0, 511);
            due("order(0, 1)", x.order(0, 1), 0);
        });
        String more = "or for which nothing is dealt with any more (200 STEPS at most are made for all of it)";
        edge(TERMS, more + " -- nothing at all, and behind some", broken(
            "if (!thought.step()) {\n                return met; ==> if (!thought.step()) {\n                return NOT;"), () -> {
            ActorTrees x = broom(SOME, SUM);
            due("row(0, 4)", x.row(0, 4), 1);
            due("order(0, 2)", x.order(0, 2), 0);
            tellAll(x, 0, 0);
            due("order(0, 1)", x.order(0, 1), NOT);
            due("order(0, 2)", x.order(0, 2), 1);
        });
        // 30 twos never take more than 60 STEPS, so the 200 can't be met.
        edge(TERMS, more + " -- TIMERS go between", broken(
            "if (thought.clock != before) { ==> if (thought.clock != before || true) {",
            "made < MOST_STEPS && met < n; ==> made < 58 && met < n;"), () -> {
            ActorTrees x = of199Steps();
            due("row(0, 60)", x.row(0, 60), 1);
            for (int k = 0; k < 30; k++) {
                due("put", x.put(0, 2 * k + 1, 99 - k), 0);
            }
            due("order(0, 30)", x.order(0, 30), NOT);
        });
        edge(TERMS, "NOT: all are so (whatever comes behind them)", broken(
            "met < n; made++) { ==> met <= n; made++) {",
            "return met < n ? met : NOT; ==> return met;"), () -> {
            ActorTrees x = broom(SOME, SUM);
            tellAll(x, 0, 5, 6);
            rowOf(x, 0, 0, 5, 0, 7);
            due("order(0, 1)", x.order(0, 1), NOT);
            due("order(0, 0)", x.order(0, 0), NOT);
            due("order(0, 2)", x.order(0, 2), 1);
        });
    }

    // ---- DRAWN

    private static int seedBehind(int seed) {
        return (int) (seed * 1103515245L + 12345L);
    }

    private static int drawnOf(int seed) {
        return seedBehind(seed) >>> 16 & 32767;
    }

    private static int numberOf(int drawn) {
        return drawn / 12 % 199 - 99;
    }

    private static void drawn() {
        edge(TERMS, "DRAWN: n (1 .. 40) times a number is SENT from -1 to an ACTOR", broken(
            "MOST_DRAWN = 40 ==> MOST_DRAWN = 39",
            "MOST_DRAWN = 40 ==> MOST_DRAWN = 41",
            "if (n < 1 || ==> if (n < 0 ||",
            "if (n < 1 || ==> if (n < 2 ||",
            "now.send(x % now.came, NONE, ==> now.send(x % now.came, 0,"), () -> {
            ActorTrees x = broom(SOME, SUM);
            due("drawn(0)", x.drawn(0), BAD);
            due("drawn(41)", x.drawn(41), BAD);
            due("drawn(1)", x.drawn(1), 0);
            due("of(0, 8)", x.of(0, 8), 1);
            due("sender(0, 0, false)", x.sender(0, 0, false), -1);
            due("drawn(40)", x.drawn(40), 29);
            due("of(0, 8)", x.of(0, 8), 12);
        });
        edge(TERMS, "z is SEED (1 at first) times 1103515245, plus 12345 (an int, wrapping)", broken(
            "int seed = 1; ==> int seed = 0;",
            "* 1103515245 + 12345; ==> * 1103515245 + 12345 & 0x7fffffff;",
            "* 1103515245 + 12345; ==> * 1103515245 + 1234;"), () -> {
            for (int seed : new int[] {1, 0, -1, LOW, HIGH, 2, 3, 1000000007, -1000000007}) {
                ActorTrees x = broom(SOME, SUM, SUM, SUM);
                due("seed(" + seed + ")", x.seed(seed), 1);
                due("drawn(1)", x.drawn(1), 0);
                due("seed behind " + seed, x.seed(0), seedBehind(seed));
            }
            ActorTrees x = broom(SOME, SUM);
            due("drawn(1)", x.drawn(1), 0);
            due("seed(0)", x.seed(0), 1103527590);
        });
        edge(TERMS, "x = (z >>> 16) & 32767", broken(
            "now.seed >>> 16 & 32767 ==> now.seed >>> 16 & 65535",
            "now.seed >>> 16 & 32767 ==> now.seed >>> 15 & 32767",
            "now.seed >>> 16 & 32767 ==> now.seed >>> 16 & 32766"), () -> {
            for (int seed : new int[] {1, 3, -1, -2, LOW, HIGH, 17, 29}) {
                ActorTrees x = twelve(SUM);
                due("seed(" + seed + ")", x.seed(seed), 1);
                due("drawn(1)", x.drawn(1), 0);
                int drawn = drawnOf(seed);
                mailboxIs(x, drawn % 12, 100 + numberOf(drawn));
            }
        });
        edge(TERMS, "the ACTOR x modulo how many came, the number (x / 12) modulo 199, less 99 -- the least and the greatest", broken(
            "x / 12 % 199 ==> x / 12 % 198",
            "x / 12 % 199 ==> x / 12 % 200",
            "x / 12 % 199 ==> Math.max(1, x / 12 % 199)"), () -> {
            for (int wanted : new int[] {-99, -98, 0, 98, 99}) {
                int seed = 1;
                while (numberOf(drawnOf(seed)) != wanted || drawnOf(seed) < 12 * 199) {
                    seed++;
                }
                ActorTrees x = broom(SOME, SUM);
                due("seed(" + seed + ")", x.seed(seed), 1);
                due("drawn(1)", x.drawn(1), 0);
                mailboxIs(x, 0, 100 + wanted);
            }
        });
        edge(TERMS, "the ACTOR x modulo how many came, the number (x / 12) modulo 199, less 99 -- STOPPED ones came, too", broken(
            "now.send(x % now.came, ==> now.send(x % Integer.bitCount(now.liveBits()),",
            "now.send(x % now.came, ==> now.send(x % MOST_ACTORS,"), () -> {
            int seed = 1;
            while (drawnOf(seed) % 5 != 4 || drawnOf(seed) % 4 == 3 || drawnOf(seed) % 12 == 4) {
                seed++;
            }
            ActorTrees x = broom(SOME, SUM, SUM, SUM, SUM, SUM);
            due("seed(" + seed + ")", x.seed(seed), 1);
            due("stop(1)", x.stop(1), 1);
            due("drawn(1)", x.drawn(1), 0);
            due("of(4, 8)", x.of(4, 8), 1);
            due("stop(4)", x.stop(4), 1);
            due("seed(" + seed + ")", x.seed(seed), seedBehind(seed));
            due("drawn(1)", x.drawn(1), 1);
            due("count(4)", x.count(4), 1);
            due("count(2)", x.count(2), 0);
        });
        edge(TERMS, "z is SEED then", broken("int x = now.seed >>> 16 & 32767; ==> int x = now.seed >>> 16 & 32767; now.seed = x;"), () -> {
            ActorTrees x = twelve(SUM);
            int seed = 1;
            int[] sent = new int[12];
            for (int k = 0; k < 5; k++) {
                sent[drawnOf(seed) % 12]++;
                seed = seedBehind(seed);
            }
            due("drawn(5)", x.drawn(5), 0);
            for (int a = 0; a < 12; a++) {
                due("of(" + a + ", 8)", x.of(a, 8), sent[a]);
            }
            due("seed(7)", x.seed(7), seed);
        });
    }

    // ---- TEXTS

    private static String lines(String line, int many) {
        return line + (";" + line).repeat(many - 1);
    }

    private static void textBytes() {
        edge(TERMS, "TEXTS by THE TAPE (at most 120 bytes)", broken(
            "MOST_BYTES = 120 ==> MOST_BYTES = 119",
            "MOST_BYTES = 120 ==> MOST_BYTES = 121"), () -> {
            ActorTrees x = new ActorTrees();
            String text = lines("s 1", 29) + ";s 10";
            for (int i = 0; i < 120; i++) {
                due("feed", x.feed(text.charAt(i)), i + 1);
            }
            due("feed(59)", x.feed(';'), FULL);
            due("count(9)", x.count(9), 120);
            due("script()", x.script(), 30);
            due("count(9)", x.count(9), 0);
        });
        edge(TERMS, "LINES with ; between", broken(
            "if (bytes.at(place) != ';') { ==> if (bytes.at(place) == ' ') {",
            "if (isRead()) {\n                    return NONE; ==> if (place >= bytes.size - 1) {\n                    return NONE;"), () -> {
            ActorTrees x = broom(SOME, SUM);
            due("one", text(x, "s 1"), 1);
            due("three", text(x, "m 0 1;s 1;m 0 2"), 3);
            due("one at the end", text(x, "s 1;"), -1004);
            due("one at first", text(x, ";s 1"), -1000);
            due("two at once", text(x, "s 1;;s 1"), -1004);
            due("one alone", text(x, ";"), -1000);
            due("a comma", text(x, "s 1,s 1"), -1003);
            due("no blank behind it", text(x, "s 1; s 1"), -1004);
        });
    }

    private static void textForm() {
        edge(TERMS, "\"a\" PARENT (99: none), OWN, STRATEGY, BUDGET, WINDOW: an ACTOR more", broken(
            "kind == 'a' ? 5 ==> kind == 'a' ? 4",
            "TEXT_NO_PARENT = 99 ==> TEXT_NO_PARENT = 98"), () -> {
            ActorTrees x = new ActorTrees();
            due("the first", text(x, "a 99 9 2 9 50"), 1);
            due("eleven more", text(x, lines("a 0 0 0 0 1", 10)), 10);
            due("one more", text(x, "a 00 00 00 00 01"), 1);
            int[] wanted = {NOT, 9, 2, 9, 50, 1};
            for (int what = 0; what < 6; what++) {
                due("of(0, " + what + ")", x.of(0, what), wanted[what]);
            }
            due("of(11, 4)", x.of(11, 4), 1);
            due("count(0)", x.count(0), 12);
            due("four numbers", text(x, "a 0 0 0 1"), -1009);
            due("six numbers", text(x, "a 0 0 0 0 1 1"), -1011);
        });
        edge(TERMS, "\"m\" ACTOR, n: a number is SENT from -1", broken(
            "now.send(told.at(0), NONE, n); ==> now.send(told.at(0), told.at(0), n);",
            "kind == 'm' ? 2 ==> kind == 'm' ? 3"), () -> {
            ActorTrees x = twelve(SUM);
            due("texts", text(x, "m 11 -99;m 0 99;m 00 -0"), 3);
            mailboxIs(x, 11, 1);
            mailboxIs(x, 0, 199, 100);
            due("sender(11, 0, false)", x.sender(11, 0, false), -1);
            due("one number", text(x, "m 0"), -1003);
            due("three numbers", text(x, "m 0 1 1"), -1005);
        });
        edge(TERMS, "\"s\" n: a RUN of n STEPS (1 .. 99; as many as there are)", broken(
            "case 's':\n                return n >= 1 ==> case 's':\n                return n >= 0",
            "case 's':\n                return n >= 1 ==> case 's':\n                return n > 1",
            "MOST_TEXT_STEPS = 99 ==> MOST_TEXT_STEPS = 98",
            "n <= MOST_TEXT_STEPS ? n : BAD ==> n <= MOST_TEXT_STEPS ? Math.min(n, 98) : BAD"), () -> {
            ActorTrees x = of199Steps();
            due("0", text(x, "s 0"), -2000);
            due("00", text(x, "s 00"), -2000);
            due("below 0", text(x, "s -1"), -2000);
            due("count(5)", x.count(5), 0);
            due("1", text(x, "s 1"), 1);
            due("count(5)", x.count(5), 1);
            due("99", text(x, "s 99"), 1);
            due("count(5)", x.count(5), 50);
            due("ended()", x.ended(), 0);
            due("99 of 99", text(x, "s 99"), 1);
            due("count(5)", x.count(5), 100);
            due("ended()", x.ended(), 1);
            due("none", text(x, "s 99;s 1"), 2);
            due("count(5)", x.count(5), 100);
            due("100", text(x, "s 100"), -1004);
        });
        edge(TERMS, "Each number with one blank ahead, one or two digits, n perhaps with a - ahead.", broken(
            "mayBeBelow0 && isNext('-'); ==> isNext('-');",
            "readNumber(kind != 'a' && k == wanted) ==> readNumber(k == wanted)",
            "readNumber(kind != 'a' && k == wanted) ==> readNumber(kind == 'm' && k == wanted)",
            "if (isDigitNext()) {\n                v ==> while (isDigitNext()) {\n                v",
            "if (!isNext(' ')) {\n                return false;\n            }\n            place++; ==> place += isNext(' ') ? 1 : 0;"), () -> {
            ActorTrees x = broom(SOME, SUM);
            due("two digits", text(x, "m 00 09"), 1);
            due("a - with two digits", text(x, "m 0 -09"), 1);
            mailboxIs(x, 0, 109, 91);
            due("a - with s", text(x, "s -9"), -2000);
            due("no blank", text(x, "s1"), -1001);
            due("two blanks", text(x, "s  1"), -1002);
            due("three digits", text(x, "m 0 123"), -1006);
            due("three digits", text(x, "m 000 1"), -1004);
            due("three digits with a -", text(x, "m 0 -123"), -1007);
            due("two -", text(x, "m 0 --1"), -1005);
            due("a - alone", text(x, "m 0 -;s 1"), -1005);
            due("a - and a blank", text(x, "m 0 - 1"), -1005);
            due("a - ahead of an ACTOR", text(x, "m -0 1"), -1002);
            due("a - ahead of a PARENT", text(x, "a -0 0 0 0 1"), -1002);
            due("a - ahead of a WINDOW", text(x, "a 0 0 0 0 -1"), -1010);
            due("a +", text(x, "m 0 +1"), -1004);
        });
    }

    private static void textFaults() {
        String told = "First the FAULT of form: the place of the first byte with which none goes on (the length, if it ends too early): -1000 less that.";
        edge(TERMS, told + " -- nothing on THE TAPE", broken(
            "int fault = tape.faultOfForm(); ==> int fault = tape.bytes.size == 0 ? NONE : tape.faultOfForm();"), () -> {
            ActorTrees x = new ActorTrees();
            due("script()", x.script(), -1000);
            due("script()", x.script(), -1000);
        });
        edge(TERMS, told + " -- it ends too early", broken(
            "return -1000 - fault; ==> return -1000 - Math.min(fault, 3);",
            "if (!isDigitNext()) {\n                return false; ==> if (isRead()) {\n                place--;\n                return false;\n            }\n            if (!isDigitNext()) {\n                return false;"), () -> {
            ActorTrees x = broom(SOME, SUM);
            String line = "a 0 0 0 0 1";
            for (int length = 1; length < line.length(); length++) {
                due(line.substring(0, length), text(x, line.substring(0, length)), -1000 - length);
            }
            due("m", text(x, "m"), -1001);
            due("m 0 -", text(x, "m 0 -"), -1005);
            due("s 1;", text(x, "s 1;"), -1004);
            due("count(0)", x.count(0), 1);
        });
        edge(TERMS, told + " -- the first byte, the last of 120", broken(
            "int wanted = kind == 'a' ? 5 ==> int wanted = kind == 'a' || kind == 'A' ? 5",
            "return -1000 - fault; ==> return -1000 - Math.min(fault, 118);"), () -> {
            ActorTrees x = broom(SOME, SUM);
            for (int letter : new int[] {0, 32, 48, 65, 98, 255}) {
                due("feed", x.feed(letter), 1);
                due("script()", x.script(), -1000);
            }
            due("the last of 120", text(x, lines("s 1", 29) + ";s 1x"), -1119);
            due("none behind 120", text(x, lines("s 1", 29) + ";m 0 ".substring(0, 5)), -1120);
        });
        edge(TERMS, told + " -- bytes that no text has", broken(
            "bytes.at(place) <= '9' ==> bytes.at(place) <= ':'",
            "bytes.at(place) >= '0' ==> bytes.at(place) >= '/'"), () -> {
            int[] letters = {'/', ':', 0, 10, 128, 255};
            for (int letter : letters) {
                ActorTrees x = broom(SOME, SUM);
                due("feed", x.feed('s'), 1);
                due("feed", x.feed(' '), 2);
                due("feed", x.feed('1'), 3);
                due("feed", x.feed(letter), 4);
                due("script()", x.script(), -1003);
                due("feed", x.feed('s'), 1);
                due("feed", x.feed(letter), 2);
                due("script()", x.script(), -1001);
                due("feed", x.feed('s'), 1);
                due("feed", x.feed(' '), 2);
                due("feed", x.feed(letter), 3);
                due("script()", x.script(), -1002);
            }
        });
        edge(TERMS, told + " -- ahead of all LINES that can't be", broken(
            "if (fault != NONE) { ==> if (fault != NONE && tape.bytes.at(2) != '9') {"), () -> {
            ActorTrees x = broom(SOME, SUM);
            due("script()", text(x, "m 99 1;m 0 1;x"), -1013);
            due("count(2)", x.count(2), 0);
        });
    }

    private static void textLines() {
        String told = "the first that can't be (no such ACTOR, a PARENT that is STOPPED or none that may be, 12 ACTORS, a number out of range;";
        edge(TERMS, told + " -- no such ACTOR", broken(
            "if (!now.isActor(told.at(0))) {\n                    return BAD; ==> if (false) {\n                    return BAD;",
            "-2000 - answer : answer + 1 ==> -2001 - answer : answer + 1"), () -> {
            ActorTrees x = broom(SOME, SUM, SUM);
            due("m 1", text(x, "m 1 5"), 1);
            due("m 2", text(x, "m 2 5"), -2000);
            due("m 99", text(x, "m 99 5"), -2000);
            due("a 2", text(x, "a 2 0 0 0 1"), -2000);
            due("a 98", text(x, "a 98 0 0 0 1"), -2000);
            due("a 1", text(x, "a 1 0 0 0 1"), 1);
        });
        edge(TERMS, told + " -- a PARENT that is STOPPED, and none", broken(
            "if (parent != NONE && !isLive(parent)) { ==> if (false) {",
            "boolean hasPlace = parent == NONE ? came == 0 : ==> boolean hasPlace = parent == NONE ? true :"), () -> {
            ActorTrees x = new ActorTrees();
            due("none yet", text(x, "a 0 0 0 0 1"), -2000);
            due("none", text(x, "a 99 0 0 0 1;a 0 0 0 0 1"), 2);
            due("none again", text(x, "a 99 0 0 0 1"), -2000);
            due("stop(1)", x.stop(1), 1);
            due("STOPPED", text(x, "a 1 0 0 0 1"), -2000);
            due("stop(0)", x.stop(0), 1);
            due("none that may be", text(x, "a 99 0 0 0 1"), -2000);
            due("count(0)", x.count(0), 2);
        });
        edge(TERMS, told + " -- 12 ACTORS", broken(
            "if (came < 0 || came >= MOST_ACTORS) {\n                return FULL; ==> if (came < 0 || came >= MOST_ACTORS) {\n                return 0;"), () -> {
            ActorTrees x = broom(SOME, 0, 0, 0, 0, 0, 0, 0, 0, 0, 0, 0);
            due("the 12th, and one more", text(x, "a 0 0 0 0 1;a 0 0 0 0 1"), -2001);
            due("count(0)", x.count(0), 11);
            due("the 12th", text(x, "a 0 0 0 0 1"), 1);
        });
        edge(TERMS, told + " -- OWN, STRATEGY, BUDGET, WINDOW", broken(
            "own > QUIT ==> own > 99",
            "strategy > REST ==> strategy > 99",
            "budget > MOST_BUDGET ==> budget > 99",
            "window > MOST_WINDOW ==> window > 99",
            "window < 1 ==> window < 0"), () -> {
            ActorTrees x = broom(SOME, SUM);
            String[] lines = {"a 0 10 0 0 1", "a 0 99 0 0 1", "a 0 0 3 0 1", "a 0 0 99 0 1", "a 0 0 0 10 1", "a 0 0 0 99 1", "a 0 0 0 0 0", "a 0 0 0 0 51", "a 0 0 0 0 99"};
            for (String line : lines) {
                due(line, text(x, line), -2000);
            }
            due("the least", text(x, "a 0 0 0 0 1"), 1);
            due("the greatest", text(x, "a 0 9 2 9 50"), 1);
        });
        String dead = "a number SENT to one that is STOPPED or has 12 is a DEAD LETTER, and is done";
        edge(TERMS, dead + " -- STOPPED", broken(
            "now.send(told.at(0), NONE, n);\n                return 0; ==> return now.send(told.at(0), NONE, n) ? 0 : BAD;"), () -> {
            ActorTrees x = broom(SOME, SUM, SUM);
            due("stop(1)", x.stop(1), 1);
            due("script()", text(x, "m 1 5;m 0 1"), 2);
            due("count(4)", x.count(4), 1);
            due("count(2)", x.count(2), 1);
        });
        edge(TERMS, dead + " -- has 12", broken(
            "now.send(told.at(0), NONE, n);\n                return 0; ==> return now.send(told.at(0), NONE, n) ? 0 : BAD;"), () -> {
            ActorTrees x = broom(SOME, SUM);
            due("script()", text(x, lines("m 0 5", 14)), 14);
            due("count(4)", x.count(4), 2);
            due("of(0, 8)", x.of(0, 8), 12);
        });
    }

    private static void textUndone() {
        String told = "all is as it was ahead of the TEXT, and -2000 less the number of the LINE (from 0)";
        edge(TERMS, told, broken(
            "if (answer < 0) {\n            now.copyFrom(ahead); ==> if (false) {\n            now.copyFrom(ahead);",
            "ended = other.ended; ==> ",
            "clock = other.clock; ==> ",
            "deadLetters = other.deadLetters; ==> ",
            "time = other.time; ==> ",
            "came = other.came; ==> ",
            "dealt.copyFrom(other.dealt); ==> ",
            "causes.copyFrom(other.causes); ==> ",
            "timers.copyFrom(other.timers); ==> ",
            "latest = other.latest; ==> "), () -> {
            ActorTrees x = broom(SOME, FAN, SUM, DELAY, FRAIL, SUM);
            ActorTrees y = broom(SOME, FAN, SUM, DELAY, FRAIL, SUM);
            for (ActorTrees one : new ActorTrees[] {x, y}) {
                due("stop(4)", one.stop(4), 1);
                dealt(one, 2, 20);
                dealt(one, 3, 1);
                tellAll(one, 1, 4, 6);
                due("run(1)", one.run(1), 1);
                tellAll(one, 2, 4);
            }
            due("script()", text(x, "a 0 0 0 0 1;m 0 5;m 4 1;m 0 4;s 99;m 3 0;s 99;m 99 1"), -2007);
            sameSeen("ahead of the TEXT", x, y);
            tellAll(x, 0, 1);
            tellAll(y, 0, 1);
            due("run(1)", x.run(1), 1);
            due("run(1)", y.run(1), 1);
            due("the next in turn", x.log(3), 2304);
            due("the next in turn", y.log(3), 2304);
        });
        edge(TERMS, told + " -- the last of 30", broken("answer < MOST_BYTES && ==> answer < 29 &&"), () -> {
            ActorTrees x = broom(SOME, SUM);
            due("script()", text(x, lines("s 1", 29) + ";s 0"), -2029);
            due("script()", text(x, "s 0;" + lines("s 1", 29)), -2000);
            due("script()", text(x, lines("s 1", 30)), 30);
        });
    }

    // ---- AN IMAGE

    /** All sorts of things that an image keeps. */
    private static ActorTrees busy() {
        ActorTrees x = broom(1905, SUM, SWITCH, DELAY, FRAIL, HOLD);
        due("actor(4)", x.actor(4, WATCH, SOME), 5);
        due("stop(3) of another", x.actor(0, SUM, SOME), 6);
        due("stop(6)", x.stop(6), 1);
        due("tell(6)", x.tell(6, -1, 1), STATE);
        dealt(x, 3, -1);
        dealt(x, 1, 4, 0);
        dealt(x, 2, 3);
        dealt(x, 4, 5);
        dealt(x, 2, 8);
        due("run(1)", x.run(1), 1);
        due("seed(44)", x.seed(44), 1);
        due("actor(4)", x.actor(4, WATCH, SOME), 7);
        dealt(x, 7, 2);
        tellAll(x, 1, 5, 6);
        return x;
    }

    private static void image() {
        edge(TERMS, "AN IMAGE keeps all of 1, SEED, THE LOG, CAUSES, how the latest RUN ended.", broken(
            "stack.copyFrom(other.stack); ==> ",
            "mailbox.copyFrom(other.mailbox); ==> ",
            "stash.copyFrom(other.stash); ==> ",
            "watchers.copyFrom(other.watchers); ==> ",
            "notes.copyFrom(other.notes); ==> ",
            "count = other.count; ==> ",
            "live = other.live; ==> ",
            "came = other.came; ==> ",
            "timers.copyFrom(other.timers); ==> ",
            "dealt.copyFrom(other.dealt); ==> ",
            "causes.copyFrom(other.causes); ==> ",
            "latest = other.latest; ==> ",
            "time = other.time; ==> ",
            "clock = other.clock; ==> ",
            "deadLetters = other.deadLetters; ==> ",
            "seed = other.seed; ==> ",
            "ended = other.ended; ==> "), () -> {
            ActorTrees x = busy();
            ActorTrees y = busy();
            due("image()", x.image(), 8);
            due("run(200)", x.run(200) > 5 ? 1 : 0, 1);
            due("count(6)", x.count(6) > 4 ? 1 : 0, 1);
            due("actor(0)", x.actor(0, FRAIL, SOME), 8);
            due("drawn(20)", x.drawn(20) >= 0 ? 1 : 0, 1);
            due("run(200)", x.run(200) > 20 ? 1 : 0, 1);
            tellAll(x, 8, -1);
            due("run(200)", x.run(200) > 0 ? 1 : 0, 1);
            due("cause(0, 0)", x.cause(0, 0), 8);
            dealt(x, 4, 2);
            due("stop(0)", x.stop(0) > 0 ? 1 : 0, 1);
            due("run(1)", x.run(1), 0);
            due("back()", x.back(), 8);
            sameSeen("laid back", x, y);
            for (ActorTrees one : new ActorTrees[] {x, y}) {
                tellAll(one, 0, 5);
                tellAll(one, 7, 1);
                due("run(1)", one.run(1), 1);
                due("behind 7 the next is 0", one.log(one.count(8) - 1), 305);
            }
        });
        edge(TERMS, "AN IMAGE keeps all of 1, SEED, THE LOG, CAUSES, how the latest RUN ended. -- of no ACTORS", broken(
            "came = other.came; ==> came = Math.max(1, other.came);"), () -> {
            ActorTrees x = new ActorTrees();
            due("image()", x.image(), 0);
            due("actor(-1)", x.actor(-1, SUM, SOME), 0);
            due("back()", x.back(), 0);
            due("count(0)", x.count(0), 0);
            due("counted(0)", x.counted(0), VOID);
            due("actor(-1)", x.actor(-1, SUM, SOME), 0);
        });
    }

    // ---- 3 HANDLES

    private static void handles() {
        String told = "HANDLES 0 .. 5 hold nothing (at first), an ACTOR, or a ROW of n (0 .. 60) ints, 0 at first.";
        edge(TERMS, told + " -- 0 and 5, -1 and 6", broken(
            "MOST_HANDLES = 6 ==> MOST_HANDLES = 5",
            "MOST_HANDLES = 6 ==> MOST_HANDLES = 7",
            "return handle >= 0 && ==> return handle > 0 &&"), () -> {
            ActorTrees x = broom(SOME, SUM);
            for (int handle : new int[] {-1, 6, LOW, HIGH}) {
                due("hold", x.hold(handle, 0), BAD);
                due("row", x.row(handle, 1), BAD);
                due("order", x.order(handle, 0), BAD);
                due("put", x.put(handle, 0, 1), VOID);
                due("tells", x.tells(handle, 0), VOID);
            }
            for (int handle : new int[] {0, 5}) {
                due("tells", x.tells(handle, 0), VOID);
                due("order", x.order(handle, 0), NOTHING);
                due("hold", x.hold(handle, 0), 1);
                due("tells", x.tells(handle, 0), 0);
                due("row", x.row(handle, 2), 1);
                due("order", x.order(handle, 1), 0);
            }
        });
        edge(TERMS, told + " -- ROWS of 0 and 60", broken(
            "MOST_ITEMS = 60 ==> MOST_ITEMS = 59",
            "MOST_ITEMS = 60 ==> MOST_ITEMS = 61"), () -> {
            ActorTrees x = new ActorTrees();
            due("row(0, 61)", x.row(0, 61), BAD);
            due("row(0, 60)", x.row(0, 60), 1);
            due("put(0, 59)", x.put(0, 59, 7), 0);
            due("put(0, 60)", x.put(0, 60, 7), VOID);
            due("row(0, 0)", x.row(0, 0), 1);
            due("put(0, 0)", x.put(0, 0, 7), VOID);
            due("order(0, 0)", x.order(0, 0), NOT);
            due("tells(0, 0)", x.tells(0, 0), VOID_OTHER);
        });
        edge(TERMS, told + " -- 0 again in a new ROW", broken("items[i] = 0;\n ==> items[i] = i < n ? items[i] : 0;\n"), () -> {
            ActorTrees x = new ActorTrees();
            rowOf(x, 3, 5, -6, HIGH);
            due("put(3, 2)", x.put(3, 2, LOW), HIGH);
            rowOf(x, 3, 1, 2, 3);
        });
        edge(TERMS, told + " -- each its own", broken(
            "Handle held = handles[handle]; ==> Handle held = handles[0];",
            "Numbers items = handles[handle].items; ==> Numbers items = handles[0].items;"), () -> {
            ActorTrees x = broom(SOME, SUM);
            tellAll(x, 0, 5);
            rowOf(x, 0, 0, 4, 9);
            rowOf(x, 1, 0, 5);
            due("order(0, 1)", x.order(0, 1), 0);
            due("order(1, 1)", x.order(1, 1), NOT);
            due("put(1, 1)", x.put(1, 1, 4), 5);
            due("put(0, 1)", x.put(0, 1, 5), 4);
        });
    }

    private static void sorts() {
        edge(TERMS, "0 any: its number", broken("default: return number; ==> default: return one.live ? number : VOID_OTHER_SORT;"), () -> {
            ActorTrees x = twelve(SUM);
            due("hold(0, 11)", x.hold(0, 11), 1);
            due("hold(1, 0)", x.hold(1, 0), 1);
            due("stop(11)", x.stop(11), 1);
            due("tells(0, 0)", x.tells(0, 0), 11);
            due("tells(1, 0)", x.tells(1, 0), 0);
        });
        edge(TERMS, "1 a LEAF (no CHILDREN came to it): its COUNT", broken(
            "case 1: return children == 0 ? one.count ==> case 1: return (children & now.liveBits()) == 0 ? one.count",
            "bits |= actors[a].parent == parent ? ==> bits |= isLiveChild(a, parent) ?"), () -> {
            ActorTrees x = broom(SOME, SUM, SUM);
            dealt(x, 1, -99);
            due("hold(0, 1)", x.hold(0, 1), 1);
            due("tells(0, 1)", x.tells(0, 1), -99);
            due("actor(1)", x.actor(1, SUM, SOME), 2);
            due("tells(0, 1)", x.tells(0, 1), VOID_OTHER);
            due("stop(2)", x.stop(2), 1);
            due("tells(0, 1)", x.tells(0, 1), VOID_OTHER);
            due("hold(0, 2)", x.hold(0, 2), 1);
            due("tells(0, 1)", x.tells(0, 1), 0);
        });
        edge(TERMS, "2 a PARENT (some came): how many are LIVE", broken(
            "Integer.bitCount(children & now.liveBits()) ==> Integer.bitCount(children)",
            "case 2: return children != 0 ? ==> case 2: return (children & now.liveBits()) != 0 ?"), () -> {
            ActorTrees x = twelve(SUM);
            due("hold(0, 0)", x.hold(0, 0), 1);
            due("hold(1, 1)", x.hold(1, 1), 1);
            due("tells(0, 2)", x.tells(0, 2), 11);
            due("tells(1, 2)", x.tells(1, 2), VOID_OTHER);
            due("stop(1)", x.stop(1), 1);
            due("tells(0, 2)", x.tells(0, 2), 10);
            due("stop(0)", x.stop(0), 11);
            due("tells(0, 2)", x.tells(0, 2), 0);
        });
        edge(TERMS, "3 one RESTING (LIVE, no MESSAGES): its STASH's size", broken(
            "one.live && one.mailbox.size == 0 ? one.stash.size ==> one.mailbox.size == 0 ? one.stash.size",
            "one.live && one.mailbox.size == 0 ? one.stash.size ==> one.live ? one.stash.size",
            "one.live && one.mailbox.size == 0 ? one.stash.size ==> one.live && one.mailbox.size + one.stash.size == 0 ? one.stash.size"), () -> {
            ActorTrees x = broom(SOME, SUM, HOLD);
            due("hold(0, 1)", x.hold(0, 1), 1);
            due("tells(0, 3)", x.tells(0, 3), 0);
            dealt(x, 1, 1, 3, 5, 7, 9, 11);
            due("tells(0, 3)", x.tells(0, 3), 6);
            tellAll(x, 1, 1);
            due("tells(0, 3)", x.tells(0, 3), VOID_OTHER);
            due("stop(1)", x.stop(1), 1);
            due("tells(0, 3)", x.tells(0, 3), VOID_OTHER);
        });
    }

    // ---- what is answered

    /** Calls of all sorts that are answered BAD, NOT, FULL, STATE, VOID or below -10; each time all of them. */
    private static void refused(ActorTrees x) {
        due("actor", x.actor(-1, SUM, SOME), BAD);
        due("actor", x.actor(2, SUM, SOME), STATE);
        due("actor", x.actor(0, 10, SOME), BAD);
        due("actor", x.actor(0, SUM, 3001), BAD);
        due("tell", x.tell(9, -1, 1), BAD);
        due("tell", x.tell(0, 9, 1), BAD);
        due("tell", x.tell(0, -1, 100), BAD);
        due("of", x.of(0, 14), BAD);
        due("counted", x.counted(9), VOID);
        due("message", x.message(0, -1, true), BAD);
        due("sender", x.sender(0, 9, true), NOT);
        due("stack", x.stack(0, -1), BAD);
        due("watcher", x.watcher(0, 3), NOT);
        due("timer", x.timer(-1, 0), BAD);
        due("stop", x.stop(9), BAD);
        due("stop", x.stop(2), STATE);
        due("run", x.run(0), BAD);
        due("run", x.run(201), BAD);
        due("log", x.log(-1), BAD);
        due("cause", x.cause(0, 2), BAD);
        due("dry", x.dry(201, 0), VOID);
        due("dry", x.dry(1, 6), VOID);
        due("would", x.would(0, 100, 0), VOID);
        due("would", x.would(2, 1, 0), VOID);
        due("brings", x.brings(2, 0), VOID);
        due("reach", x.reach(0, 9), BAD);
        due("feed", x.feed(256), BAD);
        due("drawn", x.drawn(41), BAD);
        due("order", x.order(6, 1), BAD);
        due("order", x.order(0, 1), NOTHING);
        due("order", x.order(1, 1), OTHER);
        due("order", x.order(2, 2), NO_PLACE);
        due("order", x.order(2, -1), SIZE);
        due("back", x.back(), STATE);
        due("hold", x.hold(2, 9), BAD);
        due("hold", x.hold(6, 0), BAD);
        due("row", x.row(2, 61), BAD);
        due("row", x.row(1, -1), SIZE);
        due("put", x.put(2, 3, 1), VOID);
        due("put", x.put(1, 0, 1), VOID);
        due("tells", x.tells(0, 0), VOID);
        due("tells", x.tells(2, 0), VOID_OTHER);
        due("count", x.count(10), BAD);
    }

    private static ActorTrees forRefused() {
        ActorTrees x = broom(SOME, SUM, DELAY, SUM, FRAIL);
        due("stop(2)", x.stop(2), 1);
        dealt(x, 1, 5);
        dealt(x, 3, -1);
        tellAll(x, 0, 7);
        due("hold(1, 1)", x.hold(1, 1), 1);
        rowOf(x, 2, 5, 6, 7);
        due("feed(59)", x.feed(';'), 1);
        return x;
    }

    private static void answers() {
        edge(TERMS, "What is answered so changes nothing.", broken(
            "return isSteps(n) ? now.makeSteps(n) : BAD; ==> return isSteps(n) ? now.makeSteps(n) : BAD * (1 + 0 * now.makeSteps(1));",
            "if (!isHandle(handle) || n > MOST_ITEMS) {\n            return BAD; ==> if (!isHandle(handle) || n > MOST_ITEMS) {\n            handles[2].sort = Handle.NOTHING;\n            return BAD;",
            "if (n < 0) {\n            return SIZE_BELOW_0;\n        }\n        handles ==> handles[handle].sort = Handle.ROW;\n        if (n < 0) {\n            return SIZE_BELOW_0;\n        }\n        handles",
            "if (letter < 0 || letter > 255) {\n            return BAD; ==> if (letter < 0 || letter > 255) {\n            tape.bytes.size = 0;\n            return BAD;",
            "if (n < 1 || n > MOST_DRAWN) {\n            return BAD; ==> if (n < 1 || n > MOST_DRAWN) {\n            now.seed = 0;\n            return BAD;",
            "if (parent != NONE && !isLive(parent)) { ==> if (parent != NONE && !isLive(parent)) {\n                deadLetters++;"), () -> {
            ActorTrees x = forRefused();
            ActorTrees y = forRefused();
            refused(x);
            sameSeen("refused calls", x, y);
            due("put(2, 0)", x.put(2, 0, 0), 5);
            due("put(2, 2)", x.put(2, 2, 0), 7);
            due("tells(1, 0)", x.tells(1, 0), 1);
            due("order(0, 0)", x.order(0, 0), NOTHING);
            due("script()", x.script(), -1000);
        });
        edge(TERMS, "What is answered so changes nothing. -- FULL, and STATE of drawn()", broken(
            "return tape.bytes.add(letter) ? tape.bytes.size : FULL; ==> if (tape.bytes.size == MOST_BYTES) { tape.bytes.size--; return FULL; } tape.bytes.add(letter); return tape.bytes.size;",
            "if (now.came == 0) {\n            return STATE; ==> if (now.came == 0) {\n            now.seed++;\n            return STATE;"), () -> {
            ActorTrees x = new ActorTrees();
            due("drawn(1)", x.drawn(1), STATE);
            due("seed(1)", x.seed(1), 1);
            for (int k = 1; k <= 120; k++) {
                due("feed", x.feed('s'), k);
            }
            due("feed", x.feed('s'), FULL);
            due("count(9)", x.count(9), 120);
            due("script()", x.script(), -1001);
            x = twelve(SUM);
            due("actor(0)", x.actor(0, SUM, SOME), FULL);
            due("count(0)", x.count(0), 12);
            due("of(0, 13)", x.of(0, 13), 4094);
        });
        edge(TERMS, "Answers, of several the one named first", broken(
            "if (i < 0 || what < 0 || what > 2) { ==> if (i >= now.timers.size && i >= 0) {\n            return NOT;\n        }\n        if (i < 0 || what < 0 || what > 2) {",
            "if (letter < 0 || letter > 255) { ==> if (tape.bytes.size == MOST_BYTES) {\n            return FULL;\n        }\n        if (letter < 0 || letter > 255) {",
            "if (n < 1 || n > MOST_DRAWN) { ==> if (now.came == 0) {\n            return STATE;\n        }\n        if (n < 1 || n > MOST_DRAWN) {",
            "if (n < 0) {\n            return SIZE_BELOW_0;\n        }\n        return n ==> return n"), () -> {
            ActorTrees x = new ActorTrees();
            due("BAD ahead of STATE", x.drawn(0), BAD);
            due("BAD ahead of NOT", x.timer(0, 3), BAD);
            due("BAD ahead of NOT", x.cause(0, 2), BAD);
            due("BAD ahead of -14", x.row(6, -1), BAD);
            due("BAD ahead of -11", x.order(6, -1), BAD);
            due("-11 ahead of -14", x.order(0, -1), NOTHING);
            due("actor(-1)", x.actor(-1, SUM, SOME), 0);
            due("hold(0, 0)", x.hold(0, 0), 1);
            due("-12 ahead of -14", x.order(0, -1), OTHER);
            due("row(0, 1)", x.row(0, 1), 1);
            due("-14 ahead of -13", x.order(0, LOW), SIZE);
            due("VOID ahead of another sort", x.tells(0, 4), VOID);
            for (int k = 1; k <= 120; k++) {
                due("feed", x.feed(0), k);
            }
            due("BAD ahead of FULL", x.feed(256), BAD);
            due("stop(0)", x.stop(0), 1);
            due("BAD ahead of STATE", x.actor(0, 10, SOME), BAD);
            due("BAD ahead of STATE", x.tell(0, -1, 100), BAD);
            due("BAD ahead of NOT", x.reach(0, 1), BAD);
        });
        edge(TERMS, "BAD (-1): no such number, or it is not as said; NOT (-2): as told; FULL (-3); STATE (-5): as told; -11 nothing is there where something is wanted; -12 it is of another sort;", broken(
            "BAD = -1, ==> BAD = -9,",
            "NOT = -2, ==> NOT = -9,",
            "FULL = -3, ==> FULL = -9,",
            "STATE = -5; ==> STATE = -9;",
            "VOID = -2000000000; ==> VOID = -9;",
            "HOLDS_NOTHING = -11, ==> HOLDS_NOTHING = -9,",
            "OTHER_SORT = -12, ==> OTHER_SORT = -9,",
            "NO_PLACE = -13, ==> NO_PLACE = -9,",
            "SIZE_BELOW_0 = -14; ==> SIZE_BELOW_0 = -9;"), () -> {
            ActorTrees x = twelve(SUM);
            due("BAD", x.run(0), -1);
            due("NOT", x.first(), -2);
            due("FULL", x.actor(0, SUM, SOME), -3);
            due("STATE", x.back(), -5);
            due("VOID", x.counted(12), -2000000000);
            due("nothing", x.order(0, 0), -11);
            due("hold(0, 0)", x.hold(0, 0), 1);
            due("another sort", x.order(0, 0), -12);
            due("row(0, 1)", x.row(0, 1), 1);
            due("a place", x.order(0, 1), -13);
            due("a size", x.order(0, -1), -14);
        });
        edge(TERMS, "All memory is the class's own.", broken(
            "private final World now = new World(); ==> private static final World now = new World();",
            "private final Tape tape = new Tape(); ==> private static final Tape tape = new Tape();",
            "private final World kept = new World(); ==> private static final World kept = new World();",
            "private final Handle[] handles ==> private static final Handle[] handles"), () -> {
            ActorTrees x = broom(SOME, SUM, SUM);
            ActorTrees y = new ActorTrees();
            due("count(0)", y.count(0), 0);
            due("feed", x.feed(';'), 1);
            due("feed", y.feed(';'), 1);
            due("row(0, 2)", x.row(0, 2), 1);
            due("put(0, 0)", x.put(0, 0, 5), 0);
            due("tells(0, 0)", y.tells(0, 0), VOID);
            due("image()", x.image(), 2);
            due("back()", y.back(), STATE);
            due("actor(-1)", y.actor(-1, HOLD, SOME), 0);
            due("image()", y.image(), 1);
            due("back()", x.back(), 2);
            due("of(0, 1)", x.of(0, 1), SUM);
            ActorTrees z = new ActorTrees();
            due("row(0, 1)", z.row(0, 1), 1);
            due("put(0, 0)", x.put(0, 0, 6), 5);
        });
    }
}
