/** Edges of the promises, in their order. */
final class PromiseEdges extends Edges {
    private PromiseEdges() {
    }

    static void tell() {
        allCalls();
        aNewObject();
        actor();
        tellOne();
        of();
        ofRows();
        counted();
        message();
        stackWatcherTimer();
        stop();
        runEnded();
        log();
        cause();
        dry();
        firstQuiet();
        wouldBrings();
        reach();
        feedScript();
        drawnSeed();
        order();
        imageBack();
        holdRow();
        putTells();
        count();
    }

    /** THE ROOT WATCHES 11 of its CHILDREN; the last of these is dead, the first held a number. */
    private static ActorTrees deathOf11() {
        ActorTrees x = twelve(WATCH);
        dealt(x, 0, 11);
        due("stop(11)", x.stop(11), 1);
        return x;
    }

    // ---- actors, messages

    private static void aNewObject() {
        edge(promise(1), "`ActorTrees()`: No ACTORS.", broken(
            "int came; ==> int came = 1;",
            "int clock; ==> int clock = 1;",
            "int deadLetters; ==> int deadLetters = 1;",
            "int ended; ==> int ended = 1;",
            "private boolean hasImage; ==> private boolean hasImage = true;"), () -> {
            ActorTrees x = new ActorTrees();
            for (int what = 0; what <= 9; what++) {
                due("count(" + what + ")", x.count(what), 0);
            }
            due("tell", x.tell(0, -1, 1), BAD);
            due("of", x.of(0, 1), BAD);
            due("counted", x.counted(0), VOID);
            due("message", x.message(0, 0, false), BAD);
            due("sender", x.sender(0, 0, false), NOT);
            due("stack", x.stack(0, 0), BAD);
            due("watcher", x.watcher(0, 0), BAD);
            due("timer", x.timer(0, 0), NOT);
            due("stop", x.stop(0), BAD);
            due("ended", x.ended(), 0);
            due("log", x.log(0), NOT);
            due("cause", x.cause(0, 0), NOT);
            due("dry", x.dry(9, 0), 0);
            due("dry", x.dry(9, 1), 1);
            due("dry", x.dry(9, 10), VOID);
            due("first", x.first(), NOT);
            due("quiet", x.quiet(), 0);
            due("would", x.would(0, 1, 0), VOID);
            due("brings", x.brings(0, 0), VOID);
            due("reach", x.reach(0, 0), BAD);
            due("drawn", x.drawn(1), STATE);
            due("hold", x.hold(0, 0), BAD);
            due("back", x.back(), STATE);
            due("run", x.run(9), 0);
            due("ended", x.ended(), 1);
        });
    }

    private static void allCalls() {
        edge("What it is", "An object is used for at most 512 calls after it has been made; what later calls answer is free.", broken(
            "public int seed(int v) {\n ==> private int asked;\n\n    public int seed(int v) {\n        if (++asked > 499) {\n            return 0;\n        }\n"), () -> {
            ActorTrees x = twelve(SUM);
            int was = 1;
            for (int call = 13; call <= 512; call++) {
                due("call " + call, x.seed(7 * call), was);
                was = 7 * call;
            }
        });
    }

    private static void actor() {
        edge(promise(2), "parent -1: THE ROOT, if none came yet", broken(
            "parent == NONE ? came == 0 : isActor(parent) ==> parent == NONE ? !isLive(0) : isActor(parent)",
            "parent == NONE ? came == 0 : isActor(parent) ==> parent == NONE || isActor(parent)"), () -> {
            ActorTrees x = new ActorTrees();
            due("actor(0)", x.actor(0, SUM, SOME), BAD);
            due("actor(-1)", x.actor(-1, SUM, SOME), 0);
            due("actor(-1)", x.actor(-1, SUM, SOME), BAD);
            due("stop(0)", x.stop(0), 1);
            due("actor(-1)", x.actor(-1, SUM, SOME), BAD);
            due("count(0)", x.count(0), 1);
        });
        edge(promise(2), "sbw: 1000 STRATEGY, 100 BUDGET, and WINDOW", broken(
            "sbw / 1000, sbw / 100 % 10, ==> sbw / 1000 % 10, sbw / 100 % 10,",
            "sbw / 100 % 10, ==> sbw / 100 % 9,",
            "sbw % 100); ==> sbw % 50);"), () -> {
            int[] sbws = {1, 50, 101, 950, 1001, 1950, 2001, 2950};
            for (int sbw : sbws) {
                ActorTrees x = new ActorTrees();
                due("actor(-1, 0, " + sbw + ")", x.actor(-1, SUM, sbw), 0);
                due("of(0, 2)", x.of(0, 2), sbw / 1000);
                due("of(0, 3)", x.of(0, 3), (sbw - sbw / 1000 * 1000) / 100);
                due("of(0, 4)", x.of(0, 4), sbw - sbw / 100 * 100);
            }
            ActorTrees x = new ActorTrees();
            for (int sbw : new int[] {0, 100, 2900, 51, 99, 951, 999, 2951, 3001, 10001, 2147483601, HIGH, -1, -50, -99, -1001, LOW}) {
                due("actor(-1, 0, " + sbw + ")", x.actor(-1, SUM, sbw), BAD);
            }
            due("count(0)", x.count(0), 0);
        });
        edge(promise(2), "An ACTOR (parent -1: -- a parent that is none", broken(
            "return a >= 0 && a < came && a < MOST_ACTORS;\n        }\n\n        boolean isLive( ==> return a >= 0 && a <= came && a < MOST_ACTORS;\n        }\n\n        boolean isLive("), () -> {
            ActorTrees x = broom(SOME, SUM, SUM);
            for (int parent : new int[] {-2, 2, 12, LOW, HIGH}) {
                due("actor(" + parent + ")", x.actor(parent, SUM, SOME), BAD);
            }
            due("actor(1)", x.actor(1, SUM, SOME), 2);
        });
        edge(promise(2), "BAD; STATE: the PARENT is STOPPED; FULL: 12. -- the one named first", broken(
            "boolean hasPlace = ==> if (came >= MOST_ACTORS) { return FULL; }\n            boolean hasPlace =",
            "boolean hasPlace = ==> if (isActor(parent) && !isLive(parent)) { return STATE; }\n            boolean hasPlace =",
            "if (parent != NONE && !isLive(parent)) { ==> if (came < MOST_ACTORS && parent != NONE && !isLive(parent)) {"), () -> {
            ActorTrees x = broom(SOME, SUM, SUM);
            due("stop(1)", x.stop(1), 1);
            due("STOPPED", x.actor(1, SUM, SOME), STATE);
            due("STOPPED, and a BEHAVIOUR of 10", x.actor(1, 10, SOME), BAD);
            due("STOPPED, and a WINDOW of 0", x.actor(1, SUM, 900), BAD);
            for (int a = 2; a < 12; a++) {
                due("actor(0)", x.actor(0, SUM, SOME), a);
            }
            due("12", x.actor(0, SUM, SOME), FULL);
            due("12, and STOPPED", x.actor(1, SUM, SOME), STATE);
            due("12, and -1", x.actor(-1, SUM, SOME), BAD);
            due("12, and no PARENT", x.actor(12, SUM, SOME), BAD);
            due("12, and a BEHAVIOUR of -1", x.actor(0, -1, SOME), BAD);
            due("12, STOPPED, and a STRATEGY of 3", x.actor(1, SUM, 3001), BAD);
        });
    }

    private static void tellOne() {
        edge(promise(3), "A number is SENT (from -1, or an ACTOR): how many MESSAGES the ACTOR has.", broken(
            "now.actors[actor].mailbox.size : STATE ==> 1 : STATE",
            "from != NONE && !now.isActor(from) ==> from != NONE && !now.isLive(from)"), () -> {
            ActorTrees x = broom(SOME, SUM, SUM);
            due("stop(1)", x.stop(1), 1);
            for (int k = 1; k <= 12; k++) {
                due("tell", x.tell(0, k % 3 - 1, k), k);
            }
            due("run(1)", x.run(1), 1);
            due("tell", x.tell(0, 1, 99), 12);
        });
        edge(promise(3), "BAD; STATE: it was a DEAD LETTER (that counts). -- BAD", broken(
            "if (!now.isActor(actor) || from != NONE && !now.isActor(from) || !isNumber(n)) { ==> if (!now.isActor(actor) || from != NONE && !now.isActor(from)) {",
            "if (!now.isActor(actor) || from != NONE && !now.isActor(from) || !isNumber(n)) { ==> if (!now.isActor(actor) || !isNumber(n)) {",
            "if (!now.isActor(actor) || from != NONE && !now.isActor(from) || !isNumber(n)) { ==> if (from != NONE && !now.isActor(from) || !isNumber(n)) {"), () -> {
            ActorTrees x = broom(SOME, SUM, SUM);
            for (int actor : new int[] {-1, 2, 12, LOW, HIGH}) {
                due("tell(" + actor + ", -1, 1)", x.tell(actor, -1, 1), BAD);
            }
            for (int from : new int[] {-2, 2, 12, LOW, HIGH}) {
                due("tell(0, " + from + ", 1)", x.tell(0, from, 1), BAD);
            }
            for (int n : new int[] {-100, 100, LOW, HIGH}) {
                due("tell(0, -1, " + n + ")", x.tell(0, -1, n), BAD);
            }
            due("count(2)", x.count(2), 0);
            due("count(4)", x.count(4), 0);
        });
        edge(promise(3), "BAD; STATE: it was a DEAD LETTER (that counts).", broken(
            "if (!comes) { ==> if (false) {",
            "if (!now.isActor(actor) || from ==> if (now.isActor(actor) && !now.isLive(actor)) {\n            return STATE;\n        }\n        if (!now.isActor(actor) || from",
            "if (!now.isActor(actor) || from ==> if (now.isActor(actor) && now.actors[actor].mailbox.size == MOST_MAIL) {\n            return STATE;\n        }\n        if (!now.isActor(actor) || from"), () -> {
            ActorTrees x = broom(SOME, SUM, SUM);
            due("stop(1)", x.stop(1), 1);
            due("tell(1, -1, 1)", x.tell(1, -1, 1), STATE);
            due("count(4)", x.count(4), 1);
            due("tell(1, -1, 100)", x.tell(1, -1, 100), BAD);
            due("tell(1, 2, 1)", x.tell(1, 2, 1), BAD);
            tellAll(x, 0, 1, 1, 1, 1, 1, 1, 1, 1, 1, 1, 1, 1);
            due("tell(0, -1, 1)", x.tell(0, -1, 1), STATE);
            due("count(4)", x.count(4), 2);
            due("tell(0, -1, -100)", x.tell(0, -1, -100), BAD);
            due("tell(0, -2, 1)", x.tell(0, -2, 1), BAD);
            due("count(4)", x.count(4), 2);
        });
    }

    private static void of() {
        edge(promise(4), "PARENT (what 0; NOT), OWN (1), STRATEGY (2), BUDGET (3), WINDOW (4)", broken(
            "one.parent == NONE ? NOT : one.parent ==> one.parent",
            "case 1: return one.own; ==> case 1: return one.stack.at(one.stack.size - 1);",
            "case 2: return one.strategy; ==> case 2: return one.strategy & 1;",
            "case 3: return one.budget; ==> case 3: return one.budget & 7;",
            "case 4: return one.window; ==> case 4: return one.window & 31;"), () -> {
            ActorTrees x = new ActorTrees();
            due("actor", x.actor(-1, SWITCH, 1), 0);
            due("actor", x.actor(0, SWITCH, 2950), 1);
            dealt(x, 1, 0);
            int[] root = {NOT, SWITCH, 0, 0, 1};
            int[] child = {0, SWITCH, 2, 9, 50};
            for (int what = 0; what < 5; what++) {
                due("of(0, " + what + ")", x.of(0, what), root[what]);
                due("of(1, " + what + ")", x.of(1, what), child[what]);
            }
            due("stop(0)", x.stop(0), 2);
            due("of(0, 0)", x.of(0, 0), NOT);
            due("of(1, 0)", x.of(1, 0), 0);
        });
        edge(promise(4), "whether it is LIVE (5), what it DOES (6), how many BEHAVIOURS (7)", broken(
            "case 5: return one.live ? 1 : 0; ==> case 5: return 1;",
            "case 6: return one.stack.at(one.stack.size - 1); ==> case 6: return one.stack.at(0);",
            "case 7: return one.stack.size; ==> case 7: return one.stack.size - 1;"), () -> {
            ActorTrees x = broom(SOME, SUM, SWITCH);
            due("of(1, 5)", x.of(1, 5), 1);
            due("of(1, 6)", x.of(1, 6), SWITCH);
            due("of(1, 7)", x.of(1, 7), 1);
            dealt(x, 1, 4, 4, 4, 9);
            due("of(1, 6)", x.of(1, 6), QUIT);
            due("of(1, 7)", x.of(1, 7), 5);
            due("stop(1)", x.stop(1), 1);
            due("of(1, 5)", x.of(1, 5), 0);
            due("of(1, 6)", x.of(1, 6), SWITCH);
            due("of(1, 7)", x.of(1, 7), 1);
        });
        edge(promise(4), "failures noted at TIME less its WINDOW and later (12)", broken(
            "countFrom(now.time - one.window) ==> countFrom(now.time - one.window + 1)",
            "countFrom(now.time - one.window) ==> countFrom(now.time - one.window - 1)",
            "many += items[i] >= least ? 1 : 0; ==> many++;"), () -> {
            ActorTrees x = broom(903, SUM, FRAIL, DELAY);
            due("of(0, 12)", x.of(0, 12), 0);
            dealt(x, 1, -1, -1);
            due("of(0, 12)", x.of(0, 12), 2);
            dealt(x, 2, 2);
            due("run(1)", x.run(1), 1);
            due("count(6)", x.count(6), 3);
            due("of(0, 12)", x.of(0, 12), 2);
            ActorTrees y = broom(903, SUM, FRAIL, DELAY);
            dealt(y, 1, -1, -1);
            dealt(y, 2, 3);
            due("run(1)", y.run(1), 1);
            due("count(6)", y.count(6), 4);
            due("of(0, 12)", y.of(0, 12), 0);
            due("of(1, 12)", y.of(1, 12), 0);
        });
        edge(promise(4), "CHILDREN that came (bits: 13)", broken(
            "bits |= actors[a].parent == parent ? ==> bits |= isLiveChild(a, parent) ?",
            "a < came && a < MOST_ACTORS; a++) {\n                bits |= actors[a].parent ==> a < came && a < 11; a++) {\n                bits |= actors[a].parent"), () -> {
            ActorTrees x = twelve(SUM);
            due("of(0, 13)", x.of(0, 13), 4094);
            due("of(11, 13)", x.of(11, 13), 0);
            due("stop(11)", x.stop(11), 1);
            due("of(0, 13)", x.of(0, 13), 4094);
            ActorTrees y = chain(SOME, SUM, SUM, SUM);
            due("of(0, 13)", y.of(0, 13), 2);
            due("of(1, 13)", y.of(1, 13), 4);
        });
    }

    private static void ofRows() {
        edge(promise(4), "MESSAGES (8), how many in its STASH (9), WATCHERS (10), TIMERS (11)", broken(
            "case 8: return one.mailbox.size; ==> case 8: return Math.min(one.mailbox.size, 11);",
            "case 9: return one.stash.size; ==> case 9: return Math.min(one.stash.size, 5);",
            "case 10: return one.watchers.size; ==> case 10: return Math.min(one.watchers.size, 10);",
            "case 11: return now.timers.countOf(actor); ==> case 11: return now.timers.size;",
            "many += owners[i] == owner ? 1 : 0; ==> many += owners[i] == owner ? 2 : 0;"), () -> {
            ActorTrees x = broom(SOME, HOLD, DELAY, DELAY);
            for (int what = 8; what <= 11; what++) {
                due("of(0, " + what + ")", x.of(0, what), 0);
            }
            dealt(x, 0, 1, 3, 5, 7, 9, 11);
            due("of(0, 9)", x.of(0, 9), 6);
            tellAll(x, 0, 1, 1, 1, 1, 1, 1, 1, 1, 1, 1, 1, 1);
            due("of(0, 8)", x.of(0, 8), 12);
            ActorTrees y = broom(SOME, SUM, DELAY, DELAY);
            dealt(y, 2, 5);
            dealt(y, 1, 5, 5, 5, 5, 5, 5, 5, 5, 5);
            due("of(0, 11)", y.of(0, 11), 0);
            due("of(1, 11)", y.of(1, 11), 9);
            due("of(2, 11)", y.of(2, 11), 1);
            ActorTrees z = twelve(WATCH);
            for (int a = 1; a < 12; a++) {
                dealt(z, a, 0);
                due("of(0, 10)", z.of(0, 10), a);
            }
        });
        edge(promise(4), "BAD.", broken(
            "int of(int actor, int what) {\n        if (!now.isActor(actor)) {\n            return BAD; ==> int of(int actor, int what) {\n        if (!now.isActor(actor)) {\n            return NOT;",
            "case 13: return now.childBits(actor);\n            default: return BAD; ==> case 13: return now.childBits(actor);\n            default: return 0;"), () -> {
            ActorTrees x = broom(SOME, SUM);
            for (int actor : new int[] {-1, 1, 12, LOW, HIGH}) {
                for (int what : new int[] {-1, 0, 13, 14}) {
                    due("of(" + actor + ", " + what + ")", x.of(actor, what), BAD);
                }
            }
            for (int what : new int[] {-1, 14, LOW, HIGH}) {
                due("of(0, " + what + ")", x.of(0, what), BAD);
            }
        });
    }

    private static void counted() {
        edge(promise(5), "COUNT. VOID: BAD.", broken(
            "now.isActor(actor) ? now.actors[actor].count : VOID ==> now.isLive(actor) ? now.actors[actor].count : VOID",
            "now.isActor(actor) ? now.actors[actor].count : VOID ==> now.isActor(actor) ? now.actors[actor].count : BAD"), () -> {
            ActorTrees x = broom(SOME, SUM, SUM);
            for (int actor : new int[] {-1, 2, 12, LOW, HIGH}) {
                due("counted(" + actor + ")", x.counted(actor), VOID);
            }
            dealt(x, 1, -1);
            due("counted(1)", x.counted(1), -1);
            due("stop(1)", x.stop(1), 1);
            due("counted(1)", x.counted(1), -1);
            due("counted(0)", x.counted(0), 0);
        });
    }

    private static void message() {
        edge(promise(6), "n and 100, or 300 and x.", broken(
            "return i < row.size ? 100 + row.secondAt(i) : NOT; ==> return i < row.size ? 99 + row.secondAt(i) : NOT;",
            "return i < row.size ? 100 + row.secondAt(i) : NOT; ==> return i < row.size ? Math.min(310, 100 + row.secondAt(i)) : NOT;"), () -> {
            ActorTrees x = deathOf11();
            tellAll(x, 0, -99, 0, 99);
            mailboxIs(x, 0, 311, 1, 100, 199);
            ActorTrees y = broom(SOME, HOLD);
            dealt(y, 0, -99, 99);
            stashIs(y, 0, 1, 199);
        });
        edge(promise(6), "BAD: i below 0; NOT: there are not as many.", broken(
            "if (!now.isActor(actor) || i < 0) {\n            return BAD;\n        }\n        Pairs ==> if (!now.isActor(actor)) {\n            return BAD;\n        }\n        if (i < 0) {\n            return NOT;\n        }\n        Pairs",
            "return i < row.size ? 100 + row.secondAt(i) : NOT; ==> return i <= row.size ? 100 + row.secondAt(i) : NOT;",
            "if (!now.isActor(actor) || i < 0) {\n            return BAD;\n        }\n        Pairs ==> if (!now.isActor(actor) || i < 0) {\n            return i < 0 ? BAD : NOT;\n        }\n        Pairs"), () -> {
            ActorTrees x = broom(SOME, HOLD, SUM);
            dealt(x, 0, 1);
            tellAll(x, 0, 2, 4);
            for (boolean stash : new boolean[] {false, true}) {
                due("message(0, -1)", x.message(0, -1, stash), BAD);
                due("message(0, LOW)", x.message(0, LOW, stash), BAD);
                due("message(0, 2)", x.message(0, stash ? 1 : 2, stash), NOT);
                due("message(0, 11)", x.message(0, 11, stash), NOT);
                due("message(0, 12)", x.message(0, 12, stash), NOT);
                due("message(0, HIGH)", x.message(0, HIGH, stash), NOT);
                due("message(1, 0)", x.message(1, 0, stash), NOT);
                due("message(2, 0)", x.message(2, 0, stash), BAD);
                due("message(-1, 99)", x.message(-1, 99, stash), BAD);
            }
            due("message(0, 1, false)", x.message(0, 1, false), 104);
            due("message(0, 0, true)", x.message(0, 0, true), 101);
        });
        edge(promise(7), "Who sent that (-1: none). NOT for BAD and NOT.", broken(
            "if (!now.isActor(actor) || i < 0) {\n            return NOT; ==> if (!now.isActor(actor) || i < 0) {\n            return BAD;",
            "return i < row.size ? row.firstAt(i) : NOT; ==> return i < row.size ? row.firstAt(i) : NONE;",
            "return i < row.size ? row.firstAt(i) : NOT; ==> return i < row.size ? Math.max(0, row.firstAt(i)) : NOT;"), () -> {
            ActorTrees x = twelve(HOLD);
            due("tell(0, 11, 1)", x.tell(0, 11, 1), 1);
            due("tell(0, 0, 3)", x.tell(0, 0, 3), 2);
            due("run(2)", x.run(2), 2);
            due("tell(0, -1, 1)", x.tell(0, -1, 1), 1);
            due("tell(0, 11, 1)", x.tell(0, 11, 1), 2);
            int[][] wanted = {{-1, 11, NOT}, {11, 0, NOT}};
            for (int i = 0; i < 3; i++) {
                due("sender(0, " + i + ", false)", x.sender(0, i, false), wanted[0][i]);
                due("sender(0, " + i + ", true)", x.sender(0, i, true), wanted[1][i]);
            }
            for (boolean stash : new boolean[] {false, true}) {
                due("sender(0, -1)", x.sender(0, -1, stash), NOT);
                due("sender(0, HIGH)", x.sender(0, HIGH, stash), NOT);
                due("sender(-1, 0)", x.sender(-1, 0, stash), NOT);
                due("sender(12, 0)", x.sender(12, 0, stash), NOT);
                due("sender(1, 0)", x.sender(1, 0, stash), NOT);
            }
        });
    }

    private static void stackWatcherTimer() {
        edge(promise(8), "The i-th BEHAVIOUR of the STACK (0: OWN). BAD: i below 0; NOT.", broken(
            "itemOf(now.actors[actor].stack, i) : BAD ==> itemOf(now.actors[actor].stack, i) : NOT",
            "if (i < 0) {\n            return BAD;\n        }\n        return i < row.size ? row.at(i) : NOT; ==> return i >= 0 && i < row.size ? row.at(i) : NOT;",
            "return i < row.size ? row.at(i) : NOT; ==> return i <= row.size ? row.at(i) : NOT;"), () -> {
            ActorTrees x = broom(SOME, SUM, SWITCH);
            due("stack(1, 1)", x.stack(1, 1), NOT);
            dealt(x, 1, 4, 4, 4, 9);
            due("stack(1, 0)", x.stack(1, 0), SWITCH);
            due("stack(1, 4)", x.stack(1, 4), QUIT);
            due("stack(1, 5)", x.stack(1, 5), NOT);
            due("stack(1, HIGH)", x.stack(1, HIGH), NOT);
            due("stack(1, -1)", x.stack(1, -1), BAD);
            due("stack(1, LOW)", x.stack(1, LOW), BAD);
            due("stack(2, 0)", x.stack(2, 0), BAD);
            due("stack(-1, 9)", x.stack(-1, 9), BAD);
        });
        edge(promise(9), "The i-th of the WATCHERS. BAD: i below 0; NOT.", broken(
            "itemOf(now.actors[actor].watchers, i) : BAD ==> itemOf(now.actors[actor].watchers, i) : NOT",
            "if (i < 0) {\n            return BAD;\n        }\n        return i < row.size ? row.at(i) : NOT; ==> return i >= 0 && i < row.size ? row.at(i) : NOT;",
            "return i < row.size ? row.at(i) : NOT; ==> return i <= row.size ? row.at(i) : NOT;"), () -> {
            ActorTrees x = broom(SOME, SUM, WATCH, WATCH);
            due("watcher(0, 0)", x.watcher(0, 0), NOT);
            dealt(x, 2, 0);
            dealt(x, 1, 0);
            due("watcher(0, 0)", x.watcher(0, 0), 2);
            due("watcher(0, 1)", x.watcher(0, 1), 1);
            due("watcher(0, 2)", x.watcher(0, 2), NOT);
            due("watcher(0, HIGH)", x.watcher(0, HIGH), NOT);
            due("watcher(0, -1)", x.watcher(0, -1), BAD);
            due("watcher(0, LOW)", x.watcher(0, LOW), BAD);
            due("watcher(3, 0)", x.watcher(3, 0), BAD);
            due("watcher(-1, 9)", x.watcher(-1, 9), BAD);
        });
        edge(promise(10), "The i-th TIMER as they will be due: its ACTOR (what 0), when (1), n and 100 (2). BAD; NOT.", broken(
            "if (i >= timers.size) {\n            return NOT; ==> if (i > timers.size) {\n            return NOT;",
            "if (i < 0 || what < 0 || what > 2) { ==> if (i < 0 || what < 0 || what > 3) {",
            "if (i < 0 || what < 0 || what > 2) { ==> if (what < 0 || what > 2) {\n            return BAD;\n        }\n        if (i < 0) {\n            return NOT;\n        }\n        if (i < 0) {",
            "if (i < 0 || what < 0 || what > 2) { ==> if (i >= now.timers.size && i >= 0) {\n            return NOT;\n        }\n        if (i < 0 || what < 0 || what > 2) {",
            ": 100 + timers.numberAt(i); ==> : 99 + timers.numberAt(i);"), () -> {
            ActorTrees x = broom(SOME, SUM, DELAY, DELAY);
            due("timer(0, 0)", x.timer(0, 0), NOT);
            dealt(x, 1, 99);
            dealt(x, 2, 1);
            int[][] wanted = {{2, 2, 100}, {1, 4, 198}, {NOT, NOT, NOT}};
            for (int i = 0; i < 3; i++) {
                for (int what = 0; what < 3; what++) {
                    due("timer(" + i + ", " + what + ")", x.timer(i, what), wanted[i][what]);
                }
            }
            due("timer(HIGH, 0)", x.timer(HIGH, 0), NOT);
            due("timer(-1, 0)", x.timer(-1, 0), BAD);
            due("timer(LOW, 2)", x.timer(LOW, 2), BAD);
            due("timer(0, -1)", x.timer(0, -1), BAD);
            due("timer(0, 3)", x.timer(0, 3), BAD);
            due("timer(2, 3)", x.timer(2, 3), BAD);
            due("timer(HIGH, -1)", x.timer(HIGH, -1), BAD);
        });
    }

    private static void stop() {
        edge(promise(11), "An ACTOR STOPS: how many STOPPED. BAD; STATE: it is STOPPED.", broken(
            "stopped++; ==> stopped = 1;",
            "return now.isLive(actor) ? now.halt(actor) : STATE; ==> return now.halt(actor);",
            "public int stop(int actor) {\n        if (!now.isActor(actor)) {\n            return BAD; ==> public int stop(int actor) {\n        if (!now.isActor(actor)) {\n            return STATE;"), () -> {
            ActorTrees x = twelve(SUM);
            for (int actor : new int[] {-1, 12, LOW, HIGH}) {
                due("stop(" + actor + ")", x.stop(actor), BAD);
            }
            due("stop(11)", x.stop(11), 1);
            due("stop(11)", x.stop(11), STATE);
            due("stop(0)", x.stop(0), 11);
            due("stop(0)", x.stop(0), STATE);
            due("stop(5)", x.stop(5), STATE);
            due("count(7)", x.count(7), 0);
        });
    }

    // ---- steps

    private static void runEnded() {
        edge(promise(12), "A RUN of n STEPS (1 .. 200): how many were made. BAD.", broken(
            "return n >= 1 && n <= MOST_STEPS; ==> return n >= 0 && n <= MOST_STEPS;",
            "return n >= 1 && n <= MOST_STEPS; ==> return n > 1 && n <= MOST_STEPS;",
            "return n >= 1 && n <= MOST_STEPS; ==> return n >= 1 && n < MOST_STEPS;",
            "return n >= 1 && n <= MOST_STEPS; ==> return n >= 1;",
            "return isSteps(n) ? now.makeSteps(n) : BAD; ==> return isSteps(n) ? now.makeSteps(n) * 0 + n : BAD;"), () -> {
            ActorTrees x = broom(SOME, DELAY, SUM);
            tellAll(x, 0, 99);
            tellAll(x, 1, 1, 2, 3);
            for (int n : new int[] {0, -1, 201, LOW, HIGH}) {
                due("run(" + n + ")", x.run(n), BAD);
            }
            due("count(5)", x.count(5), 0);
            due("run(1)", x.run(1), 1);
            due("run(200)", x.run(200), 200);
            due("run(200)", x.run(200), 1);
            due("run(200)", x.run(200), 0);
        });
        edge(promise(13), "How the latest RUN in deed (by run(), or s in a TEXT) ended (0, too: none yet).", broken(
            "int ended; ==> int ended = 1;",
            "now.makeSteps(steps); ==> int was = now.ended;\n                now.makeSteps(steps);\n                now.ended = was;",
            "int made = thought.makeSteps(n); ==> int made = thought.makeSteps(n);\n        now.ended = thought.ended;"), () -> {
            ActorTrees x = broom(SOME, SUM);
            due("none yet", x.ended(), 0);
            due("refused", x.run(0), BAD);
            due("in thought", x.dry(9, 1), 1);
            due("quiet()", x.quiet(), 0);
            due("none yet", x.ended(), 0);
            due("run(1)", x.run(1), 0);
            due("ended", x.ended(), 1);
            tellAll(x, 0, 1, 2);
            due("ended", x.ended(), 1);
            due("by a TEXT", text(x, "s 1"), 1);
            due("ended", x.ended(), 0);
            due("by a TEXT that can't be", text(x, "s 9;s 0"), -2001);
            due("ended", x.ended(), 0);
            due("stop(0)", x.stop(0), 1);
            due("ended", x.ended(), 0);
            due("by a TEXT", text(x, "s 9"), 1);
            due("ended", x.ended(), 2);
        });
    }

    private static void log() {
        edge(promise(13), "(by run(), or s in a TEXT) -- not by other LINES", broken("if (steps > 0) { ==> if (steps >= 0) {"), () -> {
            ActorTrees x = new ActorTrees();
            due("a LINE that is no RUN", text(x, "a 99 0 0 0 1"), 1);
            due("none yet", x.ended(), 0);
            due("run(1)", x.run(1), 0);
            due("ended", x.ended(), 1);
            due("a LINE that is no RUN", text(x, "m 0 1;m 0 2"), 2);
            due("ended", x.ended(), 1);
            due("count(5)", x.count(5), 0);
        });
        edge(promise(14), "1000 times the ACTOR, and n and 300 (THE DEATH: 500 and x).", broken(
            "1000 * dealt.firstAt(i) + dealt.secondAt(i) + 300 ==> 1000 * dealt.firstAt(i) + dealt.secondAt(i) + 299",
            "1000 * dealt.firstAt(i) + dealt.secondAt(i) + 300 ==> 100 * dealt.firstAt(i) + dealt.secondAt(i) + 300",
            "1000 * dealt.firstAt(i) + dealt.secondAt(i) + 300 ==> 1000 * dealt.firstAt(i) + Math.min(dealt.secondAt(i), DEATH) + 300"), () -> {
            ActorTrees x = deathOf11();
            due("run(1)", x.run(1), 1);
            dealt(x, 10, -99, 99);
            int[] wanted = {311, 511, 10201, 10399};
            for (int i = 0; i < 4; i++) {
                due("log(" + i + ")", x.log(i), wanted[i]);
            }
        });
        edge(promise(14), "BAD: i below 0; NOT.", broken(
            "public int log(int i) {\n        if (i < 0) {\n            return BAD; ==> public int log(int i) {\n        if (i < 0) {\n            return NOT;",
            "return i < dealt.size ? 1000 ==> return i <= dealt.size ? 1000"), () -> {
            ActorTrees x = broom(SOME, SUM);
            due("log(0)", x.log(0), NOT);
            dealt(x, 0, 1);
            due("log(0)", x.log(0), 301);
            due("log(1)", x.log(1), NOT);
            due("log(30)", x.log(30), NOT);
            due("log(HIGH)", x.log(HIGH), NOT);
            due("log(-1)", x.log(-1), BAD);
            due("log(LOW)", x.log(LOW), BAD);
        });
    }

    private static void cause() {
        edge(promise(15), "the ACTOR (what 0), why (1). BAD; NOT: there are not as many.", broken(
            "if (i < 0 || what < 0 || what > 1) { ==> if (i < 0 || what < 0 || what > 2) {",
            "if (i >= causes.size) {\n            return NOT; ==> if (i > causes.size) {\n            return NOT;",
            "if (i < 0 || what < 0 || what > 1) { ==> if (i >= now.causes.size && i >= 0) {\n            return NOT;\n        }\n        if (i < 0 || what < 0 || what > 1) {",
            "if (i < 0 || what < 0 || what > 1) { ==> if (i < 0) {\n            return NOT;\n        }\n        if (what < 0 || what > 1) {"), () -> {
            ActorTrees x = chain(101, SUM, SUM, FRAIL);
            due("cause(0, 0)", x.cause(0, 0), NOT);
            due("cause(0, 2)", x.cause(0, 2), BAD);
            dealt(x, 2, -1, -1);
            causesAre(x, 1, 9, 2, 1);
            due("cause(HIGH, 1)", x.cause(HIGH, 1), NOT);
            due("cause(-1, 0)", x.cause(-1, 0), BAD);
            due("cause(LOW, 1)", x.cause(LOW, 1), BAD);
            due("cause(0, -1)", x.cause(0, -1), BAD);
            due("cause(0, 2)", x.cause(0, 2), BAD);
            due("cause(2, 2)", x.cause(2, 2), BAD);
            due("cause(HIGH, -1)", x.cause(HIGH, -1), BAD);
        });
    }

    // ---- in thought

    private static void dry() {
        edge(promise(16), "STEPS (what 0), how it ends (1), who is LIVE (bits: 2), DEAD LETTERS (3), CLOCK (4), TIME (5), COUNT of ACTOR what - 10 (10 ..).", broken(
            "case 4: return thought.clock; ==> case 4: return thought.clock - now.clock;",
            "case 5: return thought.time; ==> case 5: return thought.time - now.time;",
            "case 2: return thought.liveBits(); ==> case 2: return now.liveBits();",
            "case 1: return thought.ended; ==> case 1: return now.ended;",
            "bits |= actors[a].live ? 1 << a : 0; ==> bits |= actors[a].live ? 1 << a & 2047 : 0;",
            "case 0: return made; ==> case 0: return Math.min(made, 5);"), () -> {
            ActorTrees x = broom(SOME, DELAY, QUIT, 0, 0, 0, 0, 0, 0, 0, 0, 0, 0);
            dealt(x, 0, 1);
            due("run(1)", x.run(1), 1);
            due("run(1)", x.run(1), 1);
            due("count(6)", x.count(6), 2);
            tellAll(x, 0, 2);
            tellAll(x, 1, 1);
            tellAll(x, 11, -99);
            due("stop(5)", x.stop(5), 1);
            due("tell(5)", x.tell(5, -1, 1), STATE);
            // 1 QUITS, 11, 0 by 2, a TIMER at 5, 0 by 1, a TIMER at 7, 0 by 0.
            int[] wanted = {7, 1, 4095 - 2 - 32, 1, 2 + 5, 7};
            for (int what = 0; what < 6; what++) {
                due("dry(200, " + what + ")", x.dry(200, what), wanted[what]);
            }
            due("dry(6, 1)", x.dry(6, 1), 0);
            due("dry(200, 10)", x.dry(200, 10), 0);
            due("dry(200, 15)", x.dry(200, 15), 0);
            due("dry(200, 21)", x.dry(200, 21), -99);
            due("dry(1, 21)", x.dry(1, 21), 0);
        });
        edge(promise(16), "VOID: BAD.", broken(
            "if (!isSteps(n) || !known) {\n            return VOID; ==> if (!isSteps(n) || !known) {\n            return BAD;",
            "if (!isSteps(n) || !known) { ==> if (!known) {"), () -> {
            ActorTrees x = broom(SOME, SUM, SUM);
            for (int what : new int[] {-1, 6, 9, 12, 21, 22, LOW, HIGH}) {
                due("dry(1, " + what + ")", x.dry(1, what), VOID);
            }
            for (int n : new int[] {0, -1, 201, LOW, HIGH}) {
                due("dry(" + n + ", 0)", x.dry(n, 0), VOID);
                due("dry(" + n + ", 11)", x.dry(n, 11), VOID);
            }
            due("dry(1, 11)", x.dry(1, 11), 0);
        });
    }

    private static void firstQuiet() {
        edge(promise(17), "FIRST. NOT.", broken(
            "if (!thought.step()) {\n                return NOT; ==> if (!thought.step()) {\n                return 0;",
            "return made;\n            }\n        }\n        return NOT; ==> return made;\n            }\n        }\n        return MOST_STEPS;"), () -> {
            ActorTrees x = broom(SOME, ECHO, FRAIL);
            due("quiet", x.first(), NOT);
            due("tell(0, 0, 99)", x.tell(0, 0, 99), 1);
            due("no failure", x.first(), NOT);
            tellAll(x, 1, 5, 4);
            due("by the 4th", x.first(), 4);
            due("count(5)", x.count(5), 0);
            ActorTrees y = broom(SOME, DELAY, DELAY, DELAY);
            for (int a = 0; a < 3; a++) {
                tellAll(y, a, 99);
            }
            due("200 STEPS and no failure", y.first(), NOT);
        });
        edge(promise(18), "QUIET. NOT.", broken(
            "return thought.hasStep() ? NOT : MOST_STEPS; ==> return MOST_STEPS;",
            "if (!thought.step()) {\n                return made;\n            }\n        }\n        return thought ==> if (!thought.step()) {\n                return made + 1;\n            }\n        }\n        return thought"), () -> {
            ActorTrees x = broom(SOME, ECHO, DELAY);
            due("quiet", x.quiet(), 0);
            due("tell(0, 0, 99)", x.tell(0, 0, 99), 1);
            due("100", x.quiet(), 100);
            tellAll(x, 1, 99);
            due("299", x.quiet(), NOT);
            due("count(5)", x.count(5), 0);
        });
    }

    private static void wouldBrings() {
        edge(promise(19), "WOULD: COUNT (what 0), whether it is LIVE (1), why (2). VOID: BAD, it is STOPPED.", broken(
            "if (!now.isLive(actor) || !isNumber(n) || what < 0 || what > 2) { ==> if (!now.isActor(actor) || !isNumber(n) || what < 0 || what > 2) {",
            "if (!now.isLive(actor) || !isNumber(n) || what < 0 || what > 2) { ==> if (!now.isLive(actor) || what < 0 || what > 2) {",
            "if (!now.isLive(actor) || !isNumber(n) || what < 0 || what > 2) { ==> if (!now.isLive(actor) || !isNumber(n) || what < 0) {",
            "if (!now.isLive(actor) || !isNumber(n) || what < 0 || what > 2) { ==> if (!now.isLive(actor) || !isNumber(n) || what > 2) {"), () -> {
            ActorTrees x = broom(SOME, SUM, SUM, FRAIL);
            due("stop(1)", x.stop(1), 1);
            for (int actor : new int[] {-1, 1, 3, LOW, HIGH}) {
                due("would(" + actor + ", 1, 0)", x.would(actor, 1, 0), VOID);
            }
            for (int n : new int[] {-100, 100, LOW, HIGH}) {
                due("would(0, " + n + ", 0)", x.would(0, n, 0), VOID);
            }
            for (int what : new int[] {-1, 3, LOW, HIGH}) {
                due("would(0, 1, " + what + ")", x.would(0, 1, what), VOID);
            }
            due("would(0, -99, 0)", x.would(0, -99, 0), -99);
            due("would(0, 99, 0)", x.would(0, 99, 0), 99);
            due("would(0, 99, 1)", x.would(0, 99, 1), 1);
            due("would(2, -1, 2)", x.would(2, -1, 2), 1);
            due("would(2, 0, 2)", x.would(2, 0, 2), 0);
            due("counted(0)", x.counted(0), 0);
        });
        edge(promise(20), "BRINGS: RESTARTED (what 0, bits), STOPPED (1, bits), in what it ended (2). VOID: BAD, it is STOPPED.", broken(
            "if (!now.isLive(actor) || what < 0 || what > 2) {\n            return VOID; ==> if (!now.isActor(actor) || what < 0 || what > 2) {\n            return VOID;",
            "if (!now.isLive(actor) || what < 0 || what > 2) {\n            return VOID; ==> if (!now.isLive(actor) || what > 2) {\n            return VOID;",
            "if (!now.isLive(actor) || what < 0 || what > 2) {\n            return VOID; ==> if (!now.isLive(actor) || what < 0) {\n            return VOID;",
            "if (!now.isLive(actor) || what < 0 || what > 2) {\n            return VOID; ==> if (!now.isLive(actor) || what < 0 || what > 2) {\n            return BAD;"), () -> {
            ActorTrees x = broom(SOME, SUM, SUM, SUM);
            due("actor(2)", x.actor(2, SUM, SOME), 3);
            due("stop(1)", x.stop(1), 1);
            for (int actor : new int[] {-1, 1, 4, LOW, HIGH}) {
                due("brings(" + actor + ", 0)", x.brings(actor, 0), VOID);
            }
            for (int what : new int[] {-1, 3, LOW, HIGH}) {
                due("brings(0, " + what + ")", x.brings(0, what), VOID);
            }
            int[] wanted = {4, 8, 2};
            for (int what = 0; what < 3; what++) {
                due("brings(2, " + what + ")", x.brings(2, what), wanted[what]);
            }
            due("count(1)", x.count(1), 3);
        });
    }

    private static void reach() {
        edge(promise(21), "REACH. BAD; NOT.", broken(
            "if (!now.isActor(from) || !now.isActor(to)) { ==> if (!now.isActor(from)) {\n            return BAD;\n        }\n        if (!now.isLive(from)) {\n            return NOT;\n        }\n        if (!now.isActor(to)) {",
            "if (!now.isActor(from) || !now.isActor(to)) { ==> if (false) {",
            "if (!now.isLive(one) || !now.isLive(other)) {\n                return NOT; ==> if (!now.isLive(one) || !now.isLive(other)) {\n                return BAD;"), () -> {
            ActorTrees x = broom(SOME, SUM, SUM);
            due("stop(1)", x.stop(1), 1);
            for (int other : new int[] {-1, 2, 12, LOW, HIGH}) {
                due("reach(0, " + other + ")", x.reach(0, other), BAD);
                due("reach(" + other + ", 0)", x.reach(other, 0), BAD);
                due("reach(1, " + other + ")", x.reach(1, other), BAD);
                due("reach(" + other + ", 1)", x.reach(other, 1), BAD);
            }
            due("reach(0, 1)", x.reach(0, 1), NOT);
            due("reach(1, 1)", x.reach(1, 1), NOT);
            due("reach(0, 0)", x.reach(0, 0), 0);
        });
    }

    // ---- texts, rows, images

    private static void feedScript() {
        edge(promise(22), "A byte (0 .. 255) comes to THE TAPE: how many it has. BAD, FULL (120).", broken(
            "if (letter < 0 || letter > 255) { ==> if (letter < 1 || letter > 255) {",
            "if (letter < 0 || letter > 255) { ==> if (letter < -1 || letter > 255) {",
            "if (letter < 0 || letter > 255) { ==> if (letter < 0 || letter > 254) {",
            "if (letter < 0 || letter > 255) { ==> if (letter < 0 || letter > 256) {",
            "if (letter < 0 || letter > 255) { ==> if (tape.bytes.size == MOST_BYTES) {\n            return FULL;\n        }\n        if (letter < 0 || letter > 255) {"), () -> {
            ActorTrees x = new ActorTrees();
            due("feed(-1)", x.feed(-1), BAD);
            due("feed(256)", x.feed(256), BAD);
            due("feed(LOW)", x.feed(LOW), BAD);
            due("feed(HIGH)", x.feed(HIGH), BAD);
            due("feed(0)", x.feed(0), 1);
            due("feed(255)", x.feed(255), 2);
            for (int k = 3; k <= 120; k++) {
                due("feed", x.feed(k), k);
            }
            due("feed(0)", x.feed(0), FULL);
            due("feed(256)", x.feed(256), BAD);
            due("feed(-1)", x.feed(-1), BAD);
            due("count(9)", x.count(9), 120);
        });
        edge(promise(23), "how many LINES; -1000, -2000 as told. THE TAPE is empty then (by these, too).", broken(
            "if (fault != NONE) {\n            tape.bytes.size = 0; ==> if (fault != NONE) {",
            "now.copyFrom(ahead);\n        }\n        tape.bytes.size = 0; ==> now.copyFrom(ahead);\n        }",
            "now.copyFrom(ahead);\n        }\n        tape.bytes.size = 0; ==> now.copyFrom(ahead);\n            return answer;\n        }\n        tape.bytes.size = 0;"), () -> {
            ActorTrees x = broom(SOME, SUM);
            due("LINES", text(x, "m 0 1;s 1;m 0 2"), 3);
            due("count(9)", x.count(9), 0);
            due("a FAULT", text(x, "m 0 1;s"), -1007);
            due("count(9)", x.count(9), 0);
            due("what can't be", text(x, "m 0 1;s 0"), -2001);
            due("count(9)", x.count(9), 0);
            due("LINES", text(x, "s 1"), 1);
            due("nothing", x.script(), -1000);
            due("count(9)", x.count(9), 0);
            due("count(5)", x.count(5), 2);
        });
    }

    private static void drawnSeed() {
        edge(promise(24), "DRAWN: DEAD LETTERS that came of it. BAD; STATE: no ACTORS.", broken(
            "return now.deadLetters - before; ==> return now.deadLetters;",
            "if (n < 1 || n > MOST_DRAWN) { ==> if (now.came == 0) {\n            return STATE;\n        }\n        if (n < 1 || n > MOST_DRAWN) {",
            "if (now.came == 0) {\n            return STATE; ==> if (!now.isLive(0)) {\n            return STATE;"), () -> {
            ActorTrees x = new ActorTrees();
            due("drawn(1)", x.drawn(1), STATE);
            due("drawn(40)", x.drawn(40), STATE);
            for (int n : new int[] {0, 41, -1, LOW, HIGH}) {
                due("drawn(" + n + ")", x.drawn(n), BAD);
            }
            due("actor(-1)", x.actor(-1, SUM, SOME), 0);
            for (int n : new int[] {0, 41, -1, LOW, HIGH}) {
                due("drawn(" + n + ")", x.drawn(n), BAD);
            }
            due("drawn(12)", x.drawn(12), 0);
            due("drawn(1)", x.drawn(1), 1);
            due("drawn(40)", x.drawn(40), 40);
            due("count(4)", x.count(4), 41);
            due("stop(0)", x.stop(0), 1);
            due("drawn(3)", x.drawn(3), 3);
            due("count(4)", x.count(4), 44);
        });
        edge(promise(25), "SEED becomes v: what it was.", broken(
            "now.seed = v;\n        return before; ==> now.seed = Math.max(v, -1);\n        return before;",
            "now.seed = v;\n        return before; ==> now.seed = v;\n        return v;"), () -> {
            ActorTrees x = new ActorTrees();
            int was = 1;
            for (int v : new int[] {0, -1, LOW, HIGH, VOID, 1}) {
                due("seed(" + v + ")", x.seed(v), was);
                was = v;
            }
        });
    }

    private static void order() {
        edge(promise(26), "ORDER by the first n twos of the ROW in a HANDLE; NOT. BAD (HANDLE); -11; -12; -14 n; -13 fewer elements.", broken(
            "return n > held.items.size / 2 ? NO_PLACE ==> return 2 * n > held.items.size ? NO_PLACE",
            "return n > held.items.size / 2 ? NO_PLACE ==> return n > (held.items.size + 1) / 2 ? NO_PLACE",
            "return n > held.items.size / 2 ? NO_PLACE ==> return n >= held.items.size / 2 ? NO_PLACE",
            "if (held.sort != Handle.ROW) {\n            return OTHER_SORT; ==> if (n < 0) {\n            return SIZE_BELOW_0;\n        }\n        if (held.sort != Handle.ROW) {\n            return OTHER_SORT;",
            "if (held.sort == Handle.NOTHING) { ==> if (n < 0) {\n            return SIZE_BELOW_0;\n        }\n        if (held.sort == Handle.NOTHING) {",
            "if (n < 0) {\n            return SIZE_BELOW_0;\n        }\n        return n ==> return n"), () -> {
            ActorTrees x = broom(SOME, SUM);
            int[] ns = {-1, 0, 1, LOW, HIGH};
            due("hold(1, 0)", x.hold(1, 0), 1);
            for (int n : ns) {
                due("order(6, " + n + ")", x.order(6, n), BAD);
                due("order(-1, " + n + ")", x.order(-1, n), BAD);
                due("order(0, " + n + ")", x.order(0, n), NOTHING);
                due("order(1, " + n + ")", x.order(1, n), OTHER);
            }
            rowOf(x, 0, 0, 5, 0, 6, 0);
            tellAll(x, 0, 5, 6, 7);
            due("order(0, -1)", x.order(0, -1), SIZE);
            due("order(0, LOW)", x.order(0, LOW), SIZE);
            due("order(0, 3)", x.order(0, 3), NO_PLACE);
            due("order(0, HIGH)", x.order(0, HIGH), NO_PLACE);
            due("order(0, 1 << 30)", x.order(0, 1 << 30), NO_PLACE);
            due("order(0, 2)", x.order(0, 2), NOT);
            due("order(0, 0)", x.order(0, 0), NOT);
            due("row(0, 0)", x.row(0, 0), 1);
            due("order(0, 0)", x.order(0, 0), NOT);
            due("order(0, 1)", x.order(0, 1), NO_PLACE);
        });
    }

    private static void imageBack() {
        edge(promise(27), "AN IMAGE is kept: how many ACTORS.", broken(
            "return kept.came; ==> return Integer.bitCount(kept.liveBits());",
            "kept.copyFrom(now);\n        hasImage ==> if (!hasImage) { kept.copyFrom(now); }\n        hasImage"), () -> {
            ActorTrees x = new ActorTrees();
            due("none", x.image(), 0);
            for (int a = 0; a < 12; a++) {
                due("actor", x.actor(a == 0 ? -1 : 0, SUM, SOME), a);
            }
            due("stop(5)", x.stop(5), 1);
            due("twelve", x.image(), 12);
            dealt(x, 0, 7);
            due("again", x.image(), 12);
            dealt(x, 0, 8);
            due("back()", x.back(), 12);
            due("counted(0)", x.counted(0), 7);
            due("of(5, 5)", x.of(5, 5), 0);
        });
        edge(promise(28), "(HANDLES of numbers of which there is no ACTOR then hold nothing; ROWS, THE TAPE stay): how many.", broken(
            "if (handles[h].sort == Handle.ACTOR && !now.isActor(handles[h].actor)) { ==> if (!now.isActor(handles[h].actor)) {",
            "if (handles[h].sort == Handle.ACTOR && !now.isActor(handles[h].actor)) { ==> if (handles[h].sort == Handle.ACTOR) {",
            "if (handles[h].sort == Handle.ACTOR && !now.isActor(handles[h].actor)) { ==> if (handles[h].sort == Handle.ACTOR && !now.isLive(handles[h].actor)) {",
            "if (handles[h].sort == Handle.ACTOR && !now.isActor(handles[h].actor)) { ==> if (false) {",
            "now.copyFrom(kept); ==> now.copyFrom(kept);\n        tape.bytes.size = 0;",
            "h < handles.length; h++) {\n            if ==> h < handles.length - 1; h++) {\n            if"), () -> {
            ActorTrees x = broom(SOME, SUM, SUM);
            due("stop(1)", x.stop(1), 1);
            due("hold(1, 1)", x.hold(1, 1), 1);
            due("image()", x.image(), 2);
            due("actor(0)", x.actor(0, SUM, SOME), 2);
            due("hold(0, 2)", x.hold(0, 2), 1);
            due("hold(2, 2)", x.hold(2, 2), 1);
            rowOf(x, 2, 7, 8);
            due("hold(3, 0)", x.hold(3, 0), 1);
            due("hold(5, 2)", x.hold(5, 2), 1);
            due("feed(59)", x.feed(';'), 1);
            due("back()", x.back(), 2);
            due("tells(0, 0)", x.tells(0, 0), VOID);
            due("order(0, 0)", x.order(0, 0), NOTHING);
            due("tells(1, 0)", x.tells(1, 0), 1);
            due("put(2, 1)", x.put(2, 1, 0), 8);
            due("tells(3, 0)", x.tells(3, 0), 0);
            due("tells(5, 0)", x.tells(5, 0), VOID);
            due("count(9)", x.count(9), 1);
            // One that comes anew is not held.
            due("actor(0)", x.actor(0, SUM, SOME), 2);
            due("tells(0, 0)", x.tells(0, 0), VOID);
        });
        edge(promise(28), "It is laid back -- numbers that came behind the IMAGE are no ACTORS then", broken(
            "return a >= 0 && a < came && a < MOST_ACTORS && actors[a].live;\n ==> return a >= 0 && a <= came && a < MOST_ACTORS && actors[a].live;\n",
            "a < came && a < MOST_ACTORS; a++) {\n                many ==> a <= came && a < MOST_ACTORS; a++) {\n                many",
            "return a >= 0 && a < came && a < MOST_ACTORS;\n ==> return a >= 0 && a <= came && a < MOST_ACTORS;\n"), () -> {
            ActorTrees x = broom(SOME, SUM, SUM);
            due("image()", x.image(), 2);
            due("actor(0)", x.actor(0, SUM, SOME), 2);
            tellAll(x, 2, 5, 6);
            due("back()", x.back(), 2);
            due("would(2)", x.would(2, 1, 0), VOID);
            due("brings(2)", x.brings(2, 0), VOID);
            due("stop(2)", x.stop(2), BAD);
            due("tell(2)", x.tell(2, -1, 1), BAD);
            due("counted(2)", x.counted(2), VOID);
            due("reach(0, 2)", x.reach(0, 2), BAD);
            due("actor(2)", x.actor(2, SUM, SOME), BAD);
            due("of(0, 13)", x.of(0, 13), 2);
            due("count(1)", x.count(1), 2);
            due("count(2)", x.count(2), 0);
            due("run(9)", x.run(9), 0);
        });
        edge(promise(28), "STATE: there is none.", broken(
            "if (!hasImage) {\n            return STATE; ==> if (now.came == 0) {\n            return STATE;",
            "now.copyFrom(kept); ==> now.copyFrom(kept);\n        hasImage = false;"), () -> {
            ActorTrees x = broom(SOME, SUM);
            due("back()", x.back(), STATE);
            due("count(0)", x.count(0), 1);
            due("image()", x.image(), 1);
            due("back()", x.back(), 1);
            due("stop(0)", x.stop(0), 1);
            due("back()", x.back(), 1);
            due("of(0, 5)", x.of(0, 5), 1);
            due("back()", x.back(), 1);
        });
    }

    private static void holdRow() {
        edge(promise(29), "A HANDLE holds an ACTOR, or nothing (actor -1): 1. BAD.", broken(
            "if (!isHandle(handle) || actor != NONE && !now.isActor(actor)) { ==> if (!isHandle(handle) || !now.isActor(actor)) {",
            "if (!isHandle(handle) || actor != NONE && !now.isActor(actor)) { ==> if (!isHandle(handle) || actor != NONE && !now.isLive(actor)) {",
            "if (!isHandle(handle) || actor != NONE && !now.isActor(actor)) { ==> if (!isHandle(handle)) {",
            "handles[handle].sort = actor == NONE ? Handle.NOTHING : Handle.ACTOR; ==> handles[handle].sort = Handle.ACTOR;"), () -> {
            ActorTrees x = broom(SOME, SUM, SUM);
            due("stop(1)", x.stop(1), 1);
            due("nothing, where nothing is", x.hold(0, -1), 1);
            due("tells(0, 0)", x.tells(0, 0), VOID);
            due("a STOPPED one", x.hold(0, 1), 1);
            due("tells(0, 0)", x.tells(0, 0), 1);
            for (int actor : new int[] {-2, 2, 12, LOW, HIGH}) {
                due("hold(0, " + actor + ")", x.hold(0, actor), BAD);
            }
            for (int handle : new int[] {-1, 6, LOW, HIGH}) {
                due("hold(" + handle + ", 0)", x.hold(handle, 0), BAD);
                due("hold(" + handle + ", -1)", x.hold(handle, -1), BAD);
            }
            due("tells(0, 0)", x.tells(0, 0), 1);
            due("nothing", x.hold(0, -1), 1);
            due("tells(0, 0)", x.tells(0, 0), VOID);
            rowOf(x, 5, 7);
            due("in place of a ROW", x.hold(5, 0), 1);
            due("put(5, 0)", x.put(5, 0, 1), VOID);
            rowOf(x, 5, 7);
            due("nothing in place of a ROW", x.hold(5, -1), 1);
            due("order(5, 0)", x.order(5, 0), NOTHING);
        });
        edge(promise(30), "A HANDLE holds a new ROW: 1. BAD (HANDLE, n above 60); -14.", broken(
            "if (!isHandle(handle) || n > MOST_ITEMS) { ==> if (!isHandle(handle) || n >= MOST_ITEMS) {",
            "if (!isHandle(handle) || n > MOST_ITEMS) { ==> if (n < 0) {\n            return SIZE_BELOW_0;\n        }\n        if (!isHandle(handle) || n > MOST_ITEMS) {",
            "if (n < 0) {\n            return SIZE_BELOW_0;\n        }\n        handles ==> if (n <= 0) {\n            return SIZE_BELOW_0;\n        }\n        handles",
            "if (!isHandle(handle) || n > MOST_ITEMS) { ==> if (!isHandle(handle)) {"), () -> {
            ActorTrees x = broom(SOME, SUM);
            for (int handle : new int[] {-1, 6, LOW, HIGH}) {
                for (int n : new int[] {-1, 0, 60, 61}) {
                    due("row(" + handle + ", " + n + ")", x.row(handle, n), BAD);
                }
            }
            due("row(0, 61)", x.row(0, 61), BAD);
            due("row(0, HIGH)", x.row(0, HIGH), BAD);
            due("row(0, -1)", x.row(0, -1), SIZE);
            due("row(0, LOW)", x.row(0, LOW), SIZE);
            due("order(0, 0)", x.order(0, 0), NOTHING);
            due("row(0, 0)", x.row(0, 0), 1);
            due("row(5, 60)", x.row(5, 60), 1);
            due("put(5, 59)", x.put(5, 59, 3), 0);
            due("hold(5, 0)", x.hold(5, 0), 1);
            due("in place of an ACTOR", x.row(5, 60), 1);
            due("put(5, 59)", x.put(5, 59, 3), 0);
        });
    }

    private static void putTells() {
        edge(promise(31), "Item i of a ROW becomes v: what it was. VOID: BAD (HANDLE), nothing, another sort, no such place.", broken(
            "if (i < 0 || i >= items.size) { ==> if (i < 0 || i > items.size) {",
            "if (i < 0 || i >= items.size) { ==> if (i >= items.size) {",
            "if (!isHandle(handle) || handles[handle].sort != Handle.ROW) { ==> if (!isHandle(handle) || handles[handle].sort == Handle.NOTHING) {",
            "if (!isHandle(handle) || handles[handle].sort != Handle.ROW) { ==> if (!isHandle(handle) || handles[handle].sort == Handle.ACTOR) {",
            "items.change(i, v); ==> items.change(i, Math.max(v, -1));"), () -> {
            ActorTrees x = broom(SOME, SUM);
            for (int handle : new int[] {-1, 6, LOW, HIGH}) {
                due("put(" + handle + ", 0, 1)", x.put(handle, 0, 1), VOID);
            }
            rowOf(x, 1, 1, 2, 3);
            due("hold(1, 0)", x.hold(1, 0), 1);
            due("another sort", x.put(1, 0, 1), VOID);
            due("hold(1, -1)", x.hold(1, -1), 1);
            due("nothing", x.put(1, 0, 1), VOID);
            rowOf(x, 0, 5, LOW, HIGH);
            for (int i : new int[] {-1, 3, 60, LOW, HIGH}) {
                due("put(0, " + i + ", 1)", x.put(0, i, 1), VOID);
            }
            due("put(0, 0)", x.put(0, 0, VOID), 5);
            due("put(0, 0)", x.put(0, 0, 0), VOID);
            due("put(0, 1)", x.put(0, 1, HIGH), LOW);
            due("put(0, 2)", x.put(0, 2, LOW), HIGH);
            due("put(0, 1)", x.put(0, 1, 0), HIGH);
        });
        edge(promise(32), "What the ACTOR of a HANDLE, taken for a sort (as), tells. VOID: BAD, nothing; -2000000012: it is of another sort, or a ROW.", broken(
            "as < 0 || as > 3 || ==> as < 0 || as > 4 ||",
            "as < 0 || as > 3 || ==> as > 3 ||",
            "handles[handle].sort == Handle.NOTHING) {\n            return VOID;\n        }\n        int number ==> false) {\n            return VOID;\n        }\n        int number",
            "VOID_OTHER_SORT = -2000000012 ==> VOID_OTHER_SORT = VOID",
            "as < 0 || as > 3 || ==> handles[handle].sort != Handle.ROW && (as < 0 || as > 3) ||"), () -> {
            ActorTrees x = broom(SOME, SUM, SUM);
            for (int handle : new int[] {-1, 6, LOW, HIGH}) {
                due("tells(" + handle + ", 0)", x.tells(handle, 0), VOID);
            }
            due("nothing", x.tells(0, 0), VOID);
            due("nothing", x.tells(0, 4), VOID);
            due("hold(0, 1)", x.hold(0, 1), 1);
            for (int as : new int[] {-1, 4, LOW, HIGH}) {
                due("tells(0, " + as + ")", x.tells(0, as), VOID);
            }
            int[] leaf = {1, 0, VOID_OTHER, 0};
            int[] root = {0, VOID_OTHER, 1, 0};
            due("hold(1, 0)", x.hold(1, 0), 1);
            due("row(2, 1)", x.row(2, 1), 1);
            for (int as = 0; as < 4; as++) {
                due("tells(0, " + as + ")", x.tells(0, as), leaf[as]);
                due("tells(1, " + as + ")", x.tells(1, as), root[as]);
                due("tells(2, " + as + ")", x.tells(2, as), VOID_OTHER);
            }
            due("a ROW, and as 4", x.tells(2, 4), VOID);
            due("a ROW, and as -1", x.tells(2, -1), VOID);
        });
    }

    private static void count() {
        edge(promise(33), "How many: 0 ACTORS, 1 LIVE ones, 2 MESSAGES in all MAILBOXES, 3 TIMERS, 4 DEAD LETTERS, 5 CLOCK, 6 TIME, 7 CAUSES, 8 what THE LOG has, 9 bytes on THE TAPE.", broken(
            "case 0: return now.came; ==> case 0: return Integer.bitCount(now.liveBits());",
            "case 1: return Integer.bitCount(now.liveBits()); ==> case 1: return now.came;",
            "many += actors[a].mailbox.size; ==> many += actors[a].mailbox.size + actors[a].stash.size;",
            "case 7: return now.causes.size; ==> case 7: return Math.min(1, now.causes.size);",
            "case 8: return now.dealt.size; ==> case 8: return now.clock;",
            "case 9: return tape.bytes.size; ==> case 9: return 0;"), () -> {
            ActorTrees x = broom(1, SUM, DELAY, FRAIL, HOLD);
            due("feed(0)", x.feed(0), 1);
            dealt(x, 3, 1, 3);
            for (int k = 0; k < 30; k++) {
                dealt(x, 0, k);
            }
            dealt(x, 1, 2);
            due("run(2)", x.run(2), 2);
            tellAll(x, 3, 5);
            tellAll(x, 0, 5, 6);
            int[] wanted = {4, 4, 3, 1, 0, 34, 3, 0, 30, 1};
            for (int what = 0; what < 10; what++) {
                due("count(" + what + ")", x.count(what), wanted[what]);
            }
            tellAll(x, 2, -1);
            due("run(9)", x.run(9), 1);
            due("tell(0)", x.tell(0, -1, 1), STATE);
            int[] then = {4, 0, 0, 0, 1, 35, 3, 2, 30, 1};
            for (int what = 0; what < 10; what++) {
                due("count(" + what + ") then", x.count(what), then[what]);
            }
        });
        edge(promise(33), "1 LIVE ones, 2 MESSAGES in all MAILBOXES -- of twelve", broken(
            "a < came && a < MOST_ACTORS; a++) {\n                many ==> a < came && a < MOST_ACTORS - 1; a++) {\n                many",
            "bits |= actors[a].live ? 1 << a : 0; ==> bits |= actors[a].live && a < 11 ? 1 << a : 0;"), () -> {
            ActorTrees x = twelve(SUM);
            due("count(1)", x.count(1), 12);
            for (int a = 0; a < 12; a++) {
                tellAll(x, a, 1, 1, 1, 1, 1, 1, 1, 1, 1, 1, 1, 1);
            }
            due("count(2)", x.count(2), 144);
            due("stop(0)", x.stop(0), 12);
            due("count(1)", x.count(1), 0);
            due("count(2)", x.count(2), 0);
        });
        edge(promise(33), "BAD.", broken(
            "case 9: return tape.bytes.size;\n            default: return BAD; ==> case 9: return tape.bytes.size;\n            default: return 0;"), () -> {
            ActorTrees x = new ActorTrees();
            for (int what : new int[] {-1, 10, LOW, HIGH}) {
                due("count(" + what + ")", x.count(what), BAD);
            }
        });
    }
}
