/** Edges of the document's "Terms", 1, in its order. */
final class ActorEdges extends Edges {
    private ActorEdges() {
    }

    static void tell() {
        actors();
        rows();
        messages();
        turns();
        timers();
        death();
        sumPassEcho();
        hold();
        switchFrail();
        delayFan();
        watchQuit();
        fromIt();
        stops();
        stopsTelling();
        fails();
        restartedOnes();
        restarted();
        causes();
    }

    // ---- ACTORS and what they have

    private static void actors() {
        edge(TERMS, "ACTORS 0 .. 11, as they come", broken(
            "MOST_ACTORS = 12 ==> MOST_ACTORS = 11",
            "MOST_ACTORS = 12 ==> MOST_ACTORS = 13"), () -> {
            ActorTrees x = twelve(SUM);
            due("count(0)", x.count(0), 12);
            due("actor(0)", x.actor(0, SUM, SOME), FULL);
            due("count(0)", x.count(0), 12);
            due("counted(11)", x.counted(11), 0);
            due("counted(12)", x.counted(12), VOID);
        });
        edge(TERMS, "each with a PARENT that is LIVE (0, THE ROOT: none)", broken(
            "if (parent != NONE && !isLive(parent)) { ==> if (false) {",
            "one.parent == NONE ? NOT : one.parent ==> one.parent"), () -> {
            ActorTrees x = broom(SOME, SUM, SUM);
            due("of(0, 0)", x.of(0, 0), NOT);
            due("of(1, 0)", x.of(1, 0), 0);
            due("stop(1)", x.stop(1), 1);
            due("actor(1)", x.actor(1, SUM, SOME), STATE);
            due("actor(0)", x.actor(0, SUM, SOME), 2);
        });
        edge(TERMS, "an OWN BEHAVIOUR (0 .. 9)", broken(
            "own < SUM ==> own < -1",
            "own < SUM ==> own < 1",
            "own > QUIT ==> own > 10",
            "own > QUIT ==> own > 8"), () -> {
            ActorTrees x = new ActorTrees();
            due("actor(-1, -1)", x.actor(-1, -1, SOME), BAD);
            due("actor(-1, 10)", x.actor(-1, 10, SOME), BAD);
            due("actor(-1, 0)", x.actor(-1, 0, SOME), 0);
            due("actor(0, 9)", x.actor(0, 9, SOME), 1);
            due("of(0, 1)", x.of(0, 1), 0);
            due("of(1, 1)", x.of(1, 1), 9);
        });
        edge(TERMS, "a STRATEGY (0 ONE, 1 ALL, 2 REST)", broken(
            "strategy > REST ==> strategy > 3",
            "strategy > REST ==> strategy > 1"), () -> {
            ActorTrees x = new ActorTrees();
            due("actor(-1, 0, 3001)", x.actor(-1, 0, 3001), BAD);
            due("actor(-1, 0, 2001)", x.actor(-1, 0, 2001), 0);
            due("actor(0, 0, 1)", x.actor(0, 0, 1), 1);
            due("of(0, 2)", x.of(0, 2), 2);
            due("of(1, 2)", x.of(1, 2), 0);
        });
        edge(TERMS, "a BUDGET (0 .. 9)", broken(
            "budget < 0 || ==> budget < 1 ||",
            "budget > MOST_BUDGET ==> budget > 8",
            "budget > MOST_BUDGET ==> budget > 10"), () -> {
            ActorTrees x = new ActorTrees();
            due("actor(-1, 0, 1)", x.actor(-1, 0, 1), 0);
            due("actor(0, 0, 901)", x.actor(0, 0, 901), 1);
            due("of(0, 3)", x.of(0, 3), 0);
            due("of(1, 3)", x.of(1, 3), 9);
            due("a BUDGET of 10", text(x, "a 0 0 0 10 1"), -2000);
        });
        edge(TERMS, "a WINDOW (1 .. 50)", broken(
            "window < 1 ==> window < 0",
            "window < 1 ==> window < 2",
            "MOST_WINDOW = 50 ==> MOST_WINDOW = 49",
            "MOST_WINDOW = 50 ==> MOST_WINDOW = 51"), () -> {
            ActorTrees x = new ActorTrees();
            due("actor(-1, 0, 0)", x.actor(-1, 0, 0), BAD);
            due("actor(-1, 0, 51)", x.actor(-1, 0, 51), BAD);
            due("actor(-1, 0, 50)", x.actor(-1, 0, 50), 0);
            due("actor(0, 0, 1)", x.actor(0, 0, 1), 1);
            due("of(0, 4)", x.of(0, 4), 50);
            due("of(1, 4)", x.of(1, 4), 1);
        });
        edge(TERMS, "One is LIVE (as it comes), or STOPPED.", broken(
            "live = true; ==> live = false;",
            "one.live = false; ==> one.live = true;"), () -> {
            ActorTrees x = broom(SOME, SUM, SUM);
            due("of(1, 5)", x.of(1, 5), 1);
            due("stop(1)", x.stop(1), 1);
            due("of(1, 5)", x.of(1, 5), 0);
            due("of(0, 5)", x.of(0, 5), 1);
            due("stop(1)", x.stop(1), STATE);
        });
        // How an int wraps can't be seen: no 512 calls bring a COUNT beyond some 12 million.
        edge(TERMS, "It has a COUNT (an int, wrapping; 0 at first)", broken(
            "count = 0;\n            live = true; ==> live = true;"), () -> {
            ActorTrees x = broom(SOME, SUM);
            due("counted(0)", x.counted(0), 0);
            due("image()", x.image(), 1);
            due("actor(0)", x.actor(0, SUM, SOME), 1);
            dealt(x, 1, -99);
            due("counted(1)", x.counted(1), -99);
            due("back()", x.back(), 1);
            due("actor(0)", x.actor(0, SUM, SOME), 1);
            due("counted(1)", x.counted(1), 0);
        });
    }

    private static void rows() {
        edge(TERMS, "a MAILBOX of MESSAGES (12 at most), a STASH of MESSAGES (6 at most), WATCHERS in a row. -- one that comes in place of another, laid back, has none", broken(
            "mailbox.size = 0;\n            stash.size = 0; ==> stash.size = 0;",
            "            stash.size = 0;\n            watchers ==> watchers",
            "watchers.size = 0;\n            keepOwnOnly(); ==> keepOwnOnly();",
            "watchers.size = 0;\n            keepOwnOnly(); ==> watchers.size = 0;"), () -> {
            ActorTrees x = broom(SOME, SUM, WATCH);
            due("image()", x.image(), 2);
            due("actor(0)", x.actor(0, HOLD, SOME), 2);
            due("actor(0)", x.actor(0, SWITCH, SOME), 3);
            dealt(x, 1, 2);
            dealt(x, 2, 3);
            dealt(x, 3, 4);
            tellAll(x, 2, 5);
            due("back()", x.back(), 2);
            for (int a = 2; a <= 3; a++) {
                due("actor(0)", x.actor(0, FRAIL, SOME), a);
                mailboxIs(x, a);
                stashIs(x, a);
                due("of(" + a + ", 10)", x.of(a, 10), 0);
                due("of(" + a + ", 7)", x.of(a, 7), 1);
                due("of(" + a + ", 6)", x.of(a, 6), FRAIL);
            }
        });
        edge(TERMS, "a STACK of BEHAVIOURS (its OWN one at first; 5 at most; the last is what it DOES)", broken(
            "MOST_BEHAVIOURS = 5 ==> MOST_BEHAVIOURS = 4",
            "MOST_BEHAVIOURS = 5 ==> MOST_BEHAVIOURS = 6",
            "int does = one.stack.at(one.stack.size - 1); ==> int does = one.own;",
            "case 6: return one.stack.at(one.stack.size - 1); ==> case 6: return one.own;"), () -> {
            ActorTrees x = broom(SOME, SUM, SWITCH);
            due("of(1, 7)", x.of(1, 7), 1);
            due("stack(1, 0)", x.stack(1, 0), SWITCH);
            dealt(x, 1, 4, 4, 4, 0);
            due("of(1, 7)", x.of(1, 7), 5);
            due("of(1, 6)", x.of(1, 6), SUM);
            dealt(x, 1, 9);
            due("counted(1)", x.counted(1), 9);
            due("of(1, 7)", x.of(1, 7), 5);
            ActorTrees y = broom(SOME, SUM, SWITCH);
            dealt(y, 1, 4, 4, 4, 4, 4);
            due("of(1, 7)", y.of(1, 7), 1);
        });
        edge(TERMS, "a MAILBOX of MESSAGES (12 at most)", broken(
            "MOST_MAIL = 12 ==> MOST_MAIL = 11",
            "MOST_MAIL = 12 ==> MOST_MAIL = 13"), () -> {
            ActorTrees x = broom(SOME, SUM);
            due("of(0, 8)", x.of(0, 8), 0);
            for (int k = 1; k <= 12; k++) {
                due("tell", x.tell(0, -1, k), k);
            }
            due("tell", x.tell(0, -1, 13), STATE);
            due("of(0, 8)", x.of(0, 8), 12);
            due("message(0, 11, false)", x.message(0, 11, false), 112);
        });
        edge(TERMS, "a STASH of MESSAGES (6 at most)", broken(
            "MOST_STASH = 6 ==> MOST_STASH = 5",
            "MOST_STASH = 6 ==> MOST_STASH = 7"), () -> {
            ActorTrees x = broom(SOME, SUM, HOLD);
            due("of(1, 9)", x.of(1, 9), 0);
            dealt(x, 1, 1, 3, 5, 7, 9, 11);
            stashIs(x, 1, 101, 103, 105, 107, 109, 111);
            dealt(x, 1, 13);
            due("of(1, 9)", x.of(1, 9), 0);
        });
        edge(TERMS, "WATCHERS in a row", broken("watchers = new Numbers(MOST_ACTORS) ==> watchers = new Numbers(10)"), () -> {
            ActorTrees x = twelve(WATCH);
            int[] others = {0, 1, 2, 3, 4, 6, 7, 8, 9, 10, 11};
            for (int a : others) {
                tellAll(x, a, 5);
            }
            due("run(11)", x.run(11), 11);
            due("of(5, 10)", x.of(5, 10), 11);
            for (int i = 0; i < others.length; i++) {
                due("watcher(5, " + i + ")", x.watcher(5, i), others[i]);
            }
        });
        edge(TERMS, "TIME: 0 at first", broken("int time; ==> int time = 1;"), () -> {
            ActorTrees x = broom(SOME, DELAY);
            due("count(6)", x.count(6), 0);
            dealt(x, 0, 8);
            due("count(6)", x.count(6), 0);
            due("timer(0, 1)", x.timer(0, 1), 1);
        });
        edge(TERMS, "TIMERS (10 at most)", broken("MOST_TIMERS = 10 ==> MOST_TIMERS = 9", "MOST_TIMERS = 10 ==> MOST_TIMERS = 11"), () -> {
            ActorTrees x = broom(SOME, DELAY);
            dealt(x, 0, 1, 1, 1, 1, 1, 1, 1, 1, 1, 1);
            due("count(3)", x.count(3), 10);
            dealt(x, 0, 1);
            due("count(3)", x.count(3), 10);
        });
        edge(TERMS, "CLOCK: how many MESSAGES were dealt with", broken(
            "time = timers.dueAt(0); ==> time = timers.dueAt(0); clock++;",
            "clock++; ==> clock += 0;"), () -> {
            ActorTrees x = broom(SOME, DELAY, FRAIL, SUM);
            due("count(5)", x.count(5), 0);
            dealt(x, 1, -1);
            due("count(5)", x.count(5), 1);
            dealt(x, 0, 1);
            due("count(5)", x.count(5), 2);
            due("a TIMER", x.run(1), 1);
            due("count(5)", x.count(5), 2);
            due("stop(2)", x.stop(2), 1);
            due("a DEAD LETTER", x.tell(2, -1, 1), STATE);
            due("count(5)", x.count(5), 2);
        });
    }

    private static void messages() {
        edge(TERMS, "A MESSAGE: from (an ACTOR; -1: none)", broken(
            "from != NONE && !now.isActor(from) || ==> ",
            "from != NONE && !now.isActor(from) ==> !now.isActor(from)"), () -> {
            ActorTrees x = twelve(SUM);
            due("tell(0, -2, 1)", x.tell(0, -2, 1), BAD);
            due("tell(0, 12, 1)", x.tell(0, 12, 1), BAD);
            due("tell(0, -1, 1)", x.tell(0, -1, 1), 1);
            due("tell(0, 11, 1)", x.tell(0, 11, 1), 2);
            due("tell(0, 0, 1)", x.tell(0, 0, 1), 3);
            due("sender(0, 0, false)", x.sender(0, 0, false), -1);
            due("sender(0, 1, false)", x.sender(0, 1, false), 11);
            due("sender(0, 2, false)", x.sender(0, 2, false), 0);
        });
        edge(TERMS, "a NUMBER n (-99 .. 99)", broken(
            "n >= -MOST_NUMBER ==> n > -MOST_NUMBER",
            "n >= -MOST_NUMBER ==> n >= -100",
            "n <= MOST_NUMBER; ==> n < MOST_NUMBER;",
            "n <= MOST_NUMBER; ==> n <= 100;"), () -> {
            ActorTrees x = broom(SOME, SUM);
            due("tell(0, -1, -100)", x.tell(0, -1, -100), BAD);
            due("tell(0, -1, 100)", x.tell(0, -1, 100), BAD);
            due("tell(0, -1, -99)", x.tell(0, -1, -99), 1);
            due("tell(0, -1, 99)", x.tell(0, -1, 99), 2);
            mailboxIs(x, 0, 1, 199);
        });
        edge(TERMS, "or THE DEATH of an ACTOR x", broken("NONE, DEATH + at); ==> NONE, DEATH);"), () -> {
            ActorTrees x = twelve(WATCH);
            dealt(x, 1, 11, 2);
            due("stop(11)", x.stop(11), 1);
            due("stop(2)", x.stop(2), 1);
            mailboxIs(x, 1, 311, 302);
        });
        edge(TERMS, "it comes to the MAILBOX, behind all", broken(
            "isLive(to) && actors[to].mailbox.add(from, body); ==> isLive(to) && actors[to].mailbox.size < 12; if (comes) { Pairs one = new Pairs(1); one.add(from, body); actors[to].mailbox.putAhead(one); }"), () -> {
            ActorTrees x = broom(SOME, SUM);
            tellAll(x, 0, 3, 1, 2);
            mailboxIs(x, 0, 103, 101, 102);
        });
        edge(TERMS, "if that ACTOR is STOPPED, or has 12: it is a DEAD LETTER -- STOPPED", broken(
            "isLive(to) && actors[to].mailbox.add ==> isActor(to) && actors[to].mailbox.add"), () -> {
            ActorTrees x = broom(SOME, SUM, SUM);
            due("stop(1)", x.stop(1), 1);
            due("tell(1, -1, 1)", x.tell(1, -1, 1), STATE);
            due("count(4)", x.count(4), 1);
            due("of(1, 8)", x.of(1, 8), 0);
        });
        edge(TERMS, "if that ACTOR is STOPPED, or has 12: it is a DEAD LETTER -- has 12", broken(
            "if (!comes) { ==> if (!isLive(to)) {"), () -> {
            ActorTrees x = broom(SOME, SUM);
            tellAll(x, 0, 1, 1, 1, 1, 1, 1, 1, 1, 1, 1, 1, 1);
            due("count(4)", x.count(4), 0);
            due("tell(0, -1, 1)", x.tell(0, -1, 1), STATE);
            due("count(4)", x.count(4), 1);
        });
        edge(TERMS, "(they are counted; nothing else)", broken(
            "deadLetters++; ==> deadLetters++; clock++;",
            "deadLetters++; ==> deadLetters++; latest = to;"), () -> {
            ActorTrees x = broom(SOME, SUM, SUM, SUM);
            ActorTrees y = broom(SOME, SUM, SUM, SUM);
            for (ActorTrees one : new ActorTrees[] {x, y}) {
                due("stop(1)", one.stop(1), 1);
                tellAll(one, 0, 1, 1, 1, 1, 1, 1, 1, 1, 1, 1, 1, 1);
                tellAll(one, 2, 7);
            }
            due("tell(1)", x.tell(1, 0, 5), STATE);
            due("tell(0)", x.tell(0, 2, 5), STATE);
            due("count(4)", x.count(4), 2);
            due("run(1)", x.run(1), 1);
            due("run(1)", y.run(1), 1);
            due("log(0)", x.log(0), y.log(0));
            due("seen but for count(4)", seen(x).replace("count4 2", "count4 0").equals(seen(y)) ? 1 : 0, 1);
        });
    }

    // ---- STEPS

    private static final String TURN = "the next behind the one that dealt with one latest (by numbers, from 11 on to 0; none dealt yet: from 0)";

    private static void logIs(ActorTrees x, int... dealt) {
        due("count(8)", x.count(8), dealt.length);
        for (int i = 0; i < dealt.length; i++) {
            due("log(" + i + ")", x.log(i), dealt[i]);
        }
    }

    private static void turns() {
        edge(TERMS, TURN + " -- none dealt yet", broken("int latest = NONE; ==> int latest = 0;"), () -> {
            ActorTrees x = broom(SOME, SUM, SUM, SUM);
            tellAll(x, 2, 1);
            tellAll(x, 1, 1);
            tellAll(x, 0, 1);
            due("run(3)", x.run(3), 3);
            logIs(x, 301, 1301, 2301);
        });
        edge(TERMS, TURN + " -- behind 11 comes 0", broken(
            "int a = (latest + k) % MOST_ACTORS; ==> int a = Math.min(latest + k, 11);"), () -> {
            ActorTrees x = twelve(SUM);
            dealt(x, 11, 1);
            tellAll(x, 11, 2);
            tellAll(x, 0, 3);
            due("run(2)", x.run(2), 2);
            logIs(x, 11301, 303, 11302);
        });
        edge(TERMS, TURN + " -- the next, then round to the others", broken("latest = dealer; ==> latest = NONE;"), () -> {
            ActorTrees x = broom(SOME, SUM, SUM, SUM);
            dealt(x, 1, 1);
            tellAll(x, 0, 2);
            tellAll(x, 1, 3);
            tellAll(x, 2, 4);
            due("run(3)", x.run(3), 3);
            logIs(x, 1301, 2304, 302, 1303);
        });
        edge(TERMS, TURN + " -- the same one again, if it alone has any", broken(
            "k <= MOST_ACTORS; k++) {\n                int a ==> k < MOST_ACTORS; k++) {\n                int a"), () -> {
            ActorTrees x = broom(SOME, SUM, SUM);
            tellAll(x, 1, 1, 2);
            due("run(9)", x.run(9), 2);
            logIs(x, 1301, 1302);
        });
        edge(TERMS, TURN + " -- the latest one STOPPED", broken(
            "one.live = false; ==> one.live = false; latest = latest == at ? NONE : latest;"), () -> {
            ActorTrees x = broom(SOME, SUM, QUIT, SUM);
            tellAll(x, 1, 1);
            due("run(1)", x.run(1), 1);
            tellAll(x, 0, 2);
            tellAll(x, 2, 3);
            due("run(2)", x.run(2), 2);
            logIs(x, 1301, 2303, 302);
        });
        edge(TERMS, TURN + " -- a TIMER went between", broken("send(owner, NONE, n); ==> latest = NONE; send(owner, NONE, n);"), () -> {
            ActorTrees x = broom(SOME, SUM, DELAY, SUM);
            dealt(x, 1, 5);
            due("a TIMER", x.run(1), 1);
            tellAll(x, 0, 2);
            tellAll(x, 2, 3);
            due("run(3)", x.run(3), 3);
            logIs(x, 1305, 2303, 302, 1304);
        });
        edge(TERMS, TURN + " -- one RESTARTED, with its MESSAGES", broken(
            "restarted |= 1 << a; ==> restarted |= 1 << a; latest = NONE;"), () -> {
            ActorTrees x = broom(SOME, SUM, FRAIL, SUM);
            tellAll(x, 1, -1, 5);
            due("run(1)", x.run(1), 1);
            tellAll(x, 0, 2);
            tellAll(x, 2, 3);
            due("run(3)", x.run(3), 3);
            logIs(x, 1299, 2303, 302, 1305);
        });
        edge(TERMS, "takes its first MESSAGE and deals with it; CLOCK is 1 more", broken(
            "mailbox.removeFirst(); ==> mailbox.size--;",
            "clock++; ==> clock += 2;"), () -> {
            ActorTrees x = broom(SOME, SUM);
            tellAll(x, 0, 5, 60);
            due("run(1)", x.run(1), 1);
            due("counted(0)", x.counted(0), 5);
            due("count(5)", x.count(5), 1);
            mailboxIs(x, 0, 160);
        });
    }

    private static void timers() {
        edge(TERMS, "If none has one: of the TIMERS the one due first -- MESSAGES go ahead", broken(
            "if (!isActor(dealer)) {\n                return fireTimer(); ==> if (timers.size > 0 || !isActor(dealer)) {\n                return fireTimer();"), () -> {
            ActorTrees x = broom(SOME, DELAY, SUM);
            dealt(x, 0, 8);
            tellAll(x, 1, 1, 1);
            due("run(2)", x.run(2), 2);
            due("count(3)", x.count(3), 1);
            due("count(6)", x.count(6), 0);
            due("run(1)", x.run(1), 1);
            due("count(3)", x.count(3), 0);
            due("count(6)", x.count(6), 1);
        });
        edge(TERMS, "If none has one: of the TIMERS the one due first -- set later, due earlier", broken(
            "dues[place - 1] > due ==> dues[place - 1] > 999"), () -> {
            ActorTrees x = broom(SOME, DELAY, DELAY);
            dealt(x, 0, 7);
            dealt(x, 1, 16);
            due("run(1)", x.run(1), 1);
            due("count(6)", x.count(6), 1);
            mailboxIs(x, 1, 115);
            mailboxIs(x, 0);
        });
        edge(TERMS, "(of several the one that was set first)", broken("dues[place - 1] > due ==> dues[place - 1] >= due"), () -> {
            ActorTrees x = broom(SOME, DELAY, DELAY);
            dealt(x, 1, 8);
            dealt(x, 0, 16);
            due("run(1)", x.run(1), 1);
            mailboxIs(x, 1, 107);
            mailboxIs(x, 0);
            due("timer(0, 0)", x.timer(0, 0), 0);
        });
        edge(TERMS, "If none has one: of the TIMERS the one due first -- ten of them, the last set due first", broken(
            "if (from >= 0 && from < MOST_TIMERS && to >= 0 && to < MOST_TIMERS) { ==> if (from >= 0 && from < MOST_TIMERS && to >= 0 && to < MOST_TIMERS - 1) {",
            "if (from >= 0 && from < MOST_TIMERS && to >= 0 && to < MOST_TIMERS) { ==> if (from >= 0 && from < MOST_TIMERS - 1 && to >= 0 && to < MOST_TIMERS) {"), () -> {
            ActorTrees x = broom(SOME, DELAY, DELAY);
            dealt(x, 1, 1, 1, 1, 1, 1, 1, 1, 1, 4);
            dealt(x, 0, 8);
            due("timer(0, 0)", x.timer(0, 0), 0);
            due("timer(9, 1)", x.timer(9, 1), 5);
            due("timer(9, 2)", x.timer(9, 2), 103);
            due("run(1)", x.run(1), 1);
            due("count(3)", x.count(3), 9);
            due("timer(0, 0)", x.timer(0, 0), 1);
            due("timer(8, 1)", x.timer(8, 1), 5);
            due("timer(8, 2)", x.timer(8, 2), 103);
            mailboxIs(x, 0, 107);
        });
        edge(TERMS, "goes, TIME is when it was due", broken("time = timers.dueAt(0); ==> time++;", "timers.removeFirst(); ==> "), () -> {
            ActorTrees x = broom(SOME, DELAY, DELAY);
            dealt(x, 0, 4);
            dealt(x, 1, 12);
            due("run(1)", x.run(1), 1);
            due("count(6)", x.count(6), 5);
            due("count(3)", x.count(3), 1);
            // What comes of the first one is dealt with; the second one is due at the same TIME.
            due("run(2)", x.run(2), 2);
            due("count(6)", x.count(6), 5);
        });
        edge(TERMS, "and its ACTOR is SENT n (from -1)", broken(
            "send(owner, NONE, n); ==> send(owner, owner, n);",
            "send(owner, NONE, n); ==> send(owner, NONE, n - 1);"), () -> {
            ActorTrees x = broom(SOME, SUM, DELAY);
            dealt(x, 1, 1);
            due("run(1)", x.run(1), 1);
            mailboxIs(x, 1, 100);
            due("sender(1, 0, false)", x.sender(1, 0, false), -1);
        });
        edge(TERMS, "If there are none: nothing; that is no STEP.", broken(
            "if (timers.size == 0) {\n                return false; ==> if (timers.size == 0) {\n                return true;",
            "return hasStep() ? ENDED_MADE : ENDED_QUIET; ==> return ENDED_MADE;"), () -> {
            ActorTrees x = broom(SOME, SUM);
            due("run(5)", x.run(5), 0);
            due("quiet()", x.quiet(), 0);
            due("dry(5, 0)", x.dry(5, 0), 0);
            due("count(5)", x.count(5), 0);
            due("count(6)", x.count(6), 0);
            due("count(8)", x.count(8), 0);
        });
    }

    // ---- what one DOES

    /** 1 is one of the WATCHERS of 3 and DOES b: RESTARTED with ALL it stays one, and is SWITCH again. */
    private static ActorTrees watcherThatDoes(int b) {
        ActorTrees x = broom(1905, SUM, SWITCH, FRAIL, SUM);
        dealt(x, 1, WATCH, 3);
        dealt(x, 2, -1);
        dealt(x, 1, b);
        due("of(1, 6)", x.of(1, 6), b);
        due("stop(3)", x.stop(3), 1);
        mailboxIs(x, 1, 303);
        due("run(1)", x.run(1), 1);
        return x;
    }

    private static void death() {
        edge(TERMS, "What it DOES with THE DEATH of x: COUNT is 100 plus x more", broken(
            "one.count += 100 + (body - DEATH); ==> one.count += 100;",
            "if (body < DEATH) { ==> if (body < DEATH || does == QUIT) {",
            "if (body < DEATH) { ==> if (body < DEATH || does == HOLD) {",
            "if (body < DEATH) { ==> if (body < DEATH || does == SWITCH) {"), () -> {
            for (int b = SUM; b <= QUIT; b++) {
                if (b != FRAIL) {
                    ActorTrees x = watcherThatDoes(b);
                    due("counted(1)", x.counted(1), 103);
                    due("of(1, 5)", x.of(1, 5), 1);
                    due("of(1, 7)", x.of(1, 7), 2);
                    due("of(1, 9)", x.of(1, 9), 0);
                    due("count(4)", x.count(4), 0);
                    due("run(1)", x.run(1), 0);
                }
            }
        });
        edge(TERMS, "What it DOES with THE DEATH of x: COUNT is 100 plus x more -- x is 1, x is 11", broken(
            "one.count += 100 + ==> one.count = 100 +"), () -> {
            ActorTrees x = twelve(WATCH);
            dealt(x, 2, 1, 11);
            due("stop(1)", x.stop(1), 1);
            due("run(1)", x.run(1), 1);
            due("counted(2)", x.counted(2), 101);
            due("stop(11)", x.stop(11), 1);
            due("run(1)", x.run(1), 1);
            due("counted(2)", x.counted(2), 212);
        });
        edge(TERMS, "but FRAIL: it FAILS (why 2)", broken(
            "return WHY_DEATH; ==> return WHY_NONE;",
            "WHY_DEATH = 2 ==> WHY_DEATH = 1",
            "if (does == FRAIL) { ==> if (one.own == FRAIL) {"), () -> {
            ActorTrees x = watcherThatDoes(FRAIL);
            causesAre(x, 1, 2);
            due("counted(1)", x.counted(1), 0);
            due("of(1, 7)", x.of(1, 7), 1);
        });
    }

    private static void sumPassEcho() {
        edge(TERMS, "0 SUM: COUNT is n more", broken("one.count += n; ==> one.count = n;"), () -> {
            ActorTrees x = broom(SOME, SUM);
            dealt(x, 0, 99, 5, 0, -99, -99);
            due("counted(0)", x.counted(0), -94);
        });
        edge(TERMS, "1 PASS: n is SENT to its first LIVE CHILD (by numbers), if there is one -- the first one STOPPED", broken(
            "sendDown(a, n, 1); ==> sendDown(a, n, 2);",
            "if (isLiveChild(a, parent)) {\n                    send ==> if (actors[a].parent == parent) {\n                    send"), () -> {
            ActorTrees x = broom(SOME, PASS, SUM, SUM, SUM);
            due("stop(1)", x.stop(1), 1);
            dealt(x, 0, -99);
            mailboxIs(x, 2, 1);
            mailboxIs(x, 3);
            due("count(4)", x.count(4), 0);
        });
        edge(TERMS, "1 PASS: n is SENT to its first LIVE CHILD (by numbers), if there is one -- there is none", broken(
            "case PASS:\n ==> case PASS:\n                    deadLetters += childBits(a) == 0 ? 1 : 0;\n",
            "case PASS:\n ==> case PASS:\n                    deadLetters += (childBits(a) & liveBits()) == 0 ? 1 : 0;\n"), () -> {
            ActorTrees x = broom(SOME, PASS);
            dealt(x, 0, 5);
            due("count(4)", x.count(4), 0);
            due("count(2)", x.count(2), 0);
            due("actor(0)", x.actor(0, SUM, SOME), 1);
            due("stop(1)", x.stop(1), 1);
            dealt(x, 0, 5);
            due("count(4)", x.count(4), 0);
            due("count(2)", x.count(2), 0);
            due("counted(0)", x.counted(0), 0);
        });
        edge(TERMS, "1 PASS: n is SENT to its first LIVE CHILD (by numbers), if there is one -- that has 12", broken(
            "send(a, parent, n);\n                    sent++; ==> sent += send(a, parent, n) ? 1 : 0;"), () -> {
            ActorTrees x = broom(SOME, PASS, SUM, SUM);
            tellAll(x, 1, 1, 1, 1, 1, 1, 1, 1, 1, 1, 1, 1, 1);
            tellAll(x, 0, 5);
            due("run(1)", x.run(1), 1);
            due("count(4)", x.count(4), 1);
            due("of(1, 8)", x.of(1, 8), 12);
            due("of(2, 8)", x.of(2, 8), 0);
        });
        edge(TERMS, "2 ECHO: if n is above 0 and from is an ACTOR: n - 1 is SENT to that -- n of 1 and 0", broken(
            "if (n > 0 && isActor(from)) { ==> if (n >= 0 && isActor(from)) {",
            "if (n > 0 && isActor(from)) { ==> if (n > 1 && isActor(from)) {",
            "send(from, a, n - 1); ==> send(from, a, n);"), () -> {
            ActorTrees x = broom(SOME, ECHO, SUM);
            due("tell(0, 1, 0)", x.tell(0, 1, 0), 1);
            due("tell(0, 1, -1)", x.tell(0, 1, -1), 2);
            due("run(2)", x.run(2), 2);
            mailboxIs(x, 1);
            due("tell(0, 1, 1)", x.tell(0, 1, 1), 1);
            due("run(1)", x.run(1), 1);
            mailboxIs(x, 1, 100);
        });
        edge(TERMS, "2 ECHO: if n is above 0 and from is an ACTOR: n - 1 is SENT to that -- from none", broken(
            "if (n > 0 && isActor(from)) { ==> if (n > 0) {"), () -> {
            ActorTrees x = broom(SOME, ECHO, SUM);
            dealt(x, 0, 99);
            due("count(4)", x.count(4), 0);
            due("count(2)", x.count(2), 0);
        });
        edge(TERMS, "2 ECHO: if n is above 0 and from is an ACTOR: n - 1 is SENT to that -- from one STOPPED", broken(
            "if (n > 0 && isActor(from)) { ==> if (n > 0 && isLive(from)) {"), () -> {
            ActorTrees x = broom(SOME, ECHO, SUM);
            due("stop(1)", x.stop(1), 1);
            due("tell(0, 1, 5)", x.tell(0, 1, 5), 1);
            due("run(1)", x.run(1), 1);
            due("count(4)", x.count(4), 1);
        });
        edge(TERMS, "2 ECHO: if n is above 0 and from is an ACTOR: n - 1 is SENT to that -- from itself", broken(
            "if (n > 0 && isActor(from)) { ==> if (n > 0 && isActor(from) && from != a) {"), () -> {
            ActorTrees x = broom(SOME, ECHO);
            due("tell(0, 0, 99)", x.tell(0, 0, 99), 1);
            due("run(1)", x.run(1), 1);
            mailboxIs(x, 0, 198);
            due("sender(0, 0, false)", x.sender(0, 0, false), 0);
            due("run(200)", x.run(200), 99);
        });
    }

    private static void hold() {
        edge(TERMS, "3 HOLD: n odd: the MESSAGE comes to the STASH, behind all", broken(
            "if (n % 2 != 0) { ==> if (n % 2 == 1) {",
            "one.stash.add(from, n) ==> one.stash.add(NONE, n)"), () -> {
            ActorTrees x = broom(SOME, HOLD, SUM);
            due("tell(0, 1, -99)", x.tell(0, 1, -99), 1);
            tellAll(x, 0, 99, -1, 1);
            due("run(4)", x.run(4), 4);
            stashIs(x, 0, 1, 199, 99, 101);
            due("sender(0, 0, true)", x.sender(0, 0, true), 1);
            due("sender(0, 1, true)", x.sender(0, 1, true), -1);
            due("count(2)", x.count(2), 0);
        });
        edge(TERMS, "(6 there: it FAILS, why 3)", broken(
            "one.stash.add(from, n) ? WHY_NONE : WHY_STASH ==> one.stash.add(from, n) ? WHY_NONE : WHY_NONE",
            "WHY_STASH = 3 ==> WHY_STASH = 4"), () -> {
            ActorTrees x = broom(SOME, SUM, HOLD);
            dealt(x, 1, 1, 3, 5, 7, 9, 11);
            due("count(7)", x.count(7), 0);
            dealt(x, 1, -13);
            causesAre(x, 1, 3);
            mailboxIs(x, 1, 101, 103, 105, 107, 109, 111);
        });
        edge(TERMS, "else all of the STASH comes back to the MAILBOX, ahead of all, in its order", broken(
            "unstash(one);\n ==> for (int i = 0; i < one.stash.size; i++) { one.mailbox.add(one.stash.firstAt(i), one.stash.secondAt(i)); }\n                    one.stash.size = 0;\n",
            "one.stash.size = 0;\n        } ==> }",
            "if (n % 2 != 0) { ==> if (n % 2 != 0 || n == 0) {",
            "if (n % 2 != 0) { ==> if (n % 2 != 0 || n < 0) {"), () -> {
            for (int even : new int[] {0, -98, 2}) {
                ActorTrees x = broom(SOME, HOLD, SUM);
                due("tell(0, 1, 9)", x.tell(0, 1, 9), 1);
                tellAll(x, 0, 5, 7, even, 20, 21);
                due("run(4)", x.run(4), 4);
                mailboxIs(x, 0, 109, 105, 107, 120, 121);
                stashIs(x, 0);
                due("sender(0, 0, false)", x.sender(0, 0, false), 1);
                due("sender(0, 1, false)", x.sender(0, 1, false), -1);
                due("count(4)", x.count(4), 0);
            }
        });
        edge(TERMS, "else all of the STASH comes back to the MAILBOX, ahead of all, in its order -- with who SENT them", broken(
            "System.arraycopy(firsts, 0, firsts, moved, size); ==> ",
            "System.arraycopy(other.firsts, 0, firsts, 0, moved); ==> "), () -> {
            ActorTrees x = broom(SOME, HOLD, SUM, SUM, SUM);
            due("tell(0, 1, 1)", x.tell(0, 1, 1), 1);
            due("tell(0, 2, 3)", x.tell(0, 2, 3), 2);
            due("run(2)", x.run(2), 2);
            due("tell(0, 0, 2)", x.tell(0, 0, 2), 1);
            due("tell(0, 3, 20)", x.tell(0, 3, 20), 2);
            due("tell(0, -1, 21)", x.tell(0, -1, 21), 3);
            due("run(1)", x.run(1), 1);
            mailboxIs(x, 0, 101, 103, 120, 121);
            int[] senders = {1, 2, 3, -1};
            for (int i = 0; i < senders.length; i++) {
                due("sender(0, " + i + ", false)", x.sender(0, i, false), senders[i]);
            }
        });
        edge(TERMS, "else all of the STASH comes back to the MAILBOX, ahead of all, in its order -- none is there", broken(
            "deadLetters += one.stash.size - one.mailbox.putAhead(one.stash); ==> deadLetters += one.stash.size == 0 ? 1 : one.stash.size - one.mailbox.putAhead(one.stash);"), () -> {
            ActorTrees x = broom(SOME, HOLD);
            tellAll(x, 0, 2, 4);
            due("run(1)", x.run(1), 1);
            mailboxIs(x, 0, 104);
            stashIs(x, 0);
            due("count(4)", x.count(4), 0);
        });
        String room = "(as many as have room there, the first ones; the others of the STASH are DEAD LETTERS)";
        edge(TERMS, room + " -- just room for all", broken("firsts.length - size); ==> firsts.length - size - 1);"), () -> {
            ActorTrees x = broom(SOME, HOLD);
            dealt(x, 0, 1, 3, 5);
            tellAll(x, 0, 2, 20, 21, 22, 23, 24, 25, 26, 27, 28);
            due("run(1)", x.run(1), 1);
            mailboxIs(x, 0, 101, 103, 105, 120, 121, 122, 123, 124, 125, 126, 127, 128);
            due("count(4)", x.count(4), 0);
        });
        edge(TERMS, room + " -- one too many", broken(
            "deadLetters += one.stash.size - one.mailbox.putAhead(one.stash); ==> one.mailbox.putAhead(one.stash);"), () -> {
            ActorTrees x = broom(SOME, HOLD);
            dealt(x, 0, 1, 3, 5);
            tellAll(x, 0, 2, 20, 21, 22, 23, 24, 25, 26, 27, 28, 29);
            due("run(1)", x.run(1), 1);
            mailboxIs(x, 0, 101, 103, 120, 121, 122, 123, 124, 125, 126, 127, 128, 129);
            due("count(4)", x.count(4), 1);
            stashIs(x, 0);
        });
        edge(TERMS, room + " -- room for one", broken(
            "System.arraycopy(other.seconds, 0, seconds, 0, moved); ==> System.arraycopy(other.seconds, other.size - moved, seconds, 0, moved);"), () -> {
            ActorTrees x = broom(SOME, HOLD);
            dealt(x, 0, 1, 3, 5, 7, 9, 11);
            tellAll(x, 0, 2, 20, 21, 22, 23, 24, 25, 26, 27, 28, 29, 30);
            due("run(1)", x.run(1), 1);
            mailboxIs(x, 0, 101, 120, 121, 122, 123, 124, 125, 126, 127, 128, 129, 130);
            due("count(4)", x.count(4), 5);
            stashIs(x, 0);
        });
    }

    private static void switchFrail() {
        edge(TERMS, "4 SWITCH: n below 0: the last of the STACK goes, if it isn't the only one", broken(
            "one.stack.size > 1 ? 1 : 0; ==> 1;",
            "one.stack.size > 1 ? 1 : 0; ==> one.stack.size > 2 ? 1 : 0;",
            "if (n >= 0) { ==> if (n >= -1) {"), () -> {
            ActorTrees x = broom(SOME, SUM, SWITCH);
            dealt(x, 1, -1, -99);
            due("of(1, 7)", x.of(1, 7), 1);
            dealt(x, 1, 4, 14);
            due("of(1, 7)", x.of(1, 7), 3);
            dealt(x, 1, -1);
            due("of(1, 7)", x.of(1, 7), 2);
            dealt(x, 1, -99);
            due("of(1, 7)", x.of(1, 7), 1);
            due("stack(1, 0)", x.stack(1, 0), SWITCH);
            due("count(7)", x.count(7), 0);
        });
        edge(TERMS, "else BEHAVIOUR n modulo 10 comes on it", broken(
            "one.stack.add(n % 10) ==> one.stack.add(Math.min(n, 9))",
            "one.stack.add(n % 10) ==> one.stack.add(n % 9)",
            "if (n >= 0) { ==> if (n > 0) {"), () -> {
            int[] told = {0, 9, 10, 99, 45, 94};
            int[] wanted = {0, 9, 0, 9, 5, 4};
            for (int k = 0; k < told.length; k++) {
                ActorTrees x = broom(SOME, SUM, SWITCH);
                dealt(x, 1, told[k]);
                due("of(1, 7) by " + told[k], x.of(1, 7), 2);
                due("of(1, 6) by " + told[k], x.of(1, 6), wanted[k]);
            }
        });
        edge(TERMS, "(5 there: it FAILS, why 4)", broken(
            "return one.stack.add(n % 10) ? WHY_NONE : WHY_STACK; ==> return one.stack.add(n % 10) ? WHY_NONE : WHY_NONE;",
            "WHY_STACK = 4 ==> WHY_STACK = 3"), () -> {
            ActorTrees x = broom(SOME, SUM, SWITCH);
            dealt(x, 1, 4, 4, 4, 4);
            due("of(1, 7)", x.of(1, 7), 5);
            due("count(7)", x.count(7), 0);
            dealt(x, 1, -1, 4);
            due("count(7)", x.count(7), 0);
            dealt(x, 1, 0);
            causesAre(x, 1, 4);
            due("of(1, 7)", x.of(1, 7), 1);
        });
        edge(TERMS, "5 FRAIL: n below COUNT: it FAILS (why 1); else COUNT is n", broken(
            "if (n < one.count) { ==> if (n <= one.count) {",
            "if (n < one.count) { ==> if (n < one.count - 1) {",
            "one.count = n;\n ==> one.count += n;\n",
            "WHY_BELOW_COUNT = 1 ==> WHY_BELOW_COUNT = 5"), () -> {
            ActorTrees x = broom(SOME, SUM, FRAIL);
            dealt(x, 1, 0, 5, 5, 99, 99);
            due("count(7)", x.count(7), 0);
            due("counted(1)", x.counted(1), 99);
            dealt(x, 1, 98);
            causesAre(x, 1, 1);
            due("counted(1)", x.counted(1), 0);
            due("of(0, 12)", x.of(0, 12), 1);
            dealt(x, 1, -1);
            due("of(0, 12)", x.of(0, 12), 2);
        });
    }

    private static void delayFan() {
        edge(TERMS, "6 DELAY: if n is above 0: a TIMER of its own, due at TIME plus 1 plus n modulo 8, with n - 1 -- n of 1 and 0", broken(
            "if (n > 0) {\n                        timers ==> if (n >= 0) {\n                        timers",
            "if (n > 0) {\n                        timers ==> if (n > 1) {\n                        timers"), () -> {
            ActorTrees x = broom(SOME, DELAY);
            dealt(x, 0, 0, -1, -99);
            due("count(3)", x.count(3), 0);
            dealt(x, 0, 1);
            due("count(3)", x.count(3), 1);
            due("timer(0, 1)", x.timer(0, 1), 2);
            due("timer(0, 2)", x.timer(0, 2), 100);
        });
        edge(TERMS, "6 DELAY: if n is above 0: a TIMER of its own, due at TIME plus 1 plus n modulo 8, with n - 1 -- n of 7, 8 and 99", broken(
            "time + 1 + n % 8, n - 1 ==> time + 1 + n % 9, n - 1",
            "time + 1 + n % 8, n - 1 ==> time + n % 8, n - 1",
            "time + 1 + n % 8, n - 1 ==> time + 1 + n % 8, n"), () -> {
            int[] told = {7, 8, 9, 99};
            int[] dues = {8, 1, 2, 4};
            for (int k = 0; k < told.length; k++) {
                ActorTrees x = broom(SOME, SUM, DELAY);
                dealt(x, 1, told[k]);
                due("timer(0, 0)", x.timer(0, 0), 1);
                due("timer(0, 1)", x.timer(0, 1), dues[k]);
                due("timer(0, 2)", x.timer(0, 2), 100 + told[k] - 1);
            }
        });
        edge(TERMS, "6 DELAY: if n is above 0: a TIMER of its own, due at TIME plus 1 plus n modulo 8, with n - 1 -- at a later TIME", broken(
            "time + 1 + n % 8 ==> 1 + n % 8"), () -> {
            ActorTrees x = broom(SOME, DELAY);
            dealt(x, 0, 7);
            due("run(2)", x.run(2), 2);
            due("count(6)", x.count(6), 8);
            due("timer(0, 1)", x.timer(0, 1), 15);
        });
        edge(TERMS, "(10 there: nothing)", broken(
            "size >= MOST_TIMERS) {\n                return; ==> size >= MOST_TIMERS) {\n                size = MOST_TIMERS - 1;"), () -> {
            ActorTrees x = broom(SOME, DELAY, DELAY);
            dealt(x, 0, 1, 1, 1, 1, 1);
            dealt(x, 1, 1, 1, 1, 1, 1);
            due("count(3)", x.count(3), 10);
            dealt(x, 0, 9);
            due("count(3)", x.count(3), 10);
            for (int i = 0; i < 10; i++) {
                due("timer(" + i + ", 0)", x.timer(i, 0), i < 5 ? 0 : 1);
                due("timer(" + i + ", 2)", x.timer(i, 2), 100);
            }
            due("count(4)", x.count(4), 0);
            due("count(7)", x.count(7), 0);
            due("count(5)", x.count(5), 11);
        });
        edge(TERMS, "7 FAN: n is SENT to each LIVE CHILD, by numbers -- eleven", broken(
            "sendDown(a, n, MOST_ACTORS); ==> sendDown(a, n, 10);"), () -> {
            ActorTrees x = twelve(FAN);
            dealt(x, 0, -99);
            for (int a = 1; a < 12; a++) {
                mailboxIs(x, a, 1);
            }
            mailboxIs(x, 0);
        });
        edge(TERMS, "7 FAN: n is SENT to each LIVE CHILD, by numbers -- none", broken(
            "case FAN:\n ==> case FAN:\n                    deadLetters += (childBits(a) & liveBits()) == 0 ? 1 : 0;\n"), () -> {
            ActorTrees x = broom(SOME, FAN);
            dealt(x, 0, 5);
            due("count(2)", x.count(2), 0);
            due("count(4)", x.count(4), 0);
            due("actor(0)", x.actor(0, SUM, SOME), 1);
            due("stop(1)", x.stop(1), 1);
            dealt(x, 0, 5);
            due("count(4)", x.count(4), 0);
        });
        edge(TERMS, "7 FAN: n is SENT to each LIVE CHILD, by numbers -- neither STOPPED ones nor a CHILD's CHILDREN", broken(
            "if (isLiveChild(a, parent)) {\n                    send ==> if (a != parent && isLive(a)) {\n                    send",
            "if (isLiveChild(a, parent)) {\n                    send ==> if (actors[a].parent == parent) {\n                    send"), () -> {
            ActorTrees x = broom(SOME, FAN, SUM, SUM, SUM);
            due("actor(1)", x.actor(1, SUM, SOME), 4);
            due("stop(2)", x.stop(2), 1);
            dealt(x, 0, 5);
            mailboxIs(x, 1, 105);
            mailboxIs(x, 3, 105);
            mailboxIs(x, 4);
            due("count(4)", x.count(4), 0);
        });
        edge(TERMS, "7 FAN: n is SENT to each LIVE CHILD, by numbers -- those that have 12", broken(
            "send(a, parent, n);\n                    sent++; ==> if (!send(a, parent, n)) { break; }"), () -> {
            ActorTrees x = broom(SOME, FAN, SUM, SUM, SUM);
            tellAll(x, 1, 1, 1, 1, 1, 1, 1, 1, 1, 1, 1, 1, 1);
            tellAll(x, 2, 1, 1, 1, 1, 1, 1, 1, 1, 1, 1, 1, 1);
            tellAll(x, 0, 5);
            due("run(1)", x.run(1), 1);
            due("count(4)", x.count(4), 2);
            mailboxIs(x, 3, 105);
        });
    }

    private static void watchQuit() {
        edge(TERMS, "8 WATCH: ACTOR n (below 0: n plus 99) modulo how many came", broken(
            "n < 0 ? n + 99 : n ==> n < 0 ? -n : n",
            "n < 0 ? n + 99 : n ==> n < 0 ? n + 100 : n",
            "n < 0 ? n + 99 : n ==> n <= 0 ? n + 99 : n",
            "int watched = n % came; ==> int watched = n % 12;",
            "int watched = n % came; ==> int watched = n % Integer.bitCount(liveBits());"), () -> {
            int[] told = {-99, -98, -1, 0, 3, 4, 5, 98, 99};
            int[] watched = {0, 1, 3, 0, 3, 4, 0, 3, 4};
            for (int k = 0; k < told.length; k++) {
                ActorTrees x = broom(SOME, SUM, SUM, WATCH, SUM, SUM);
                dealt(x, 2, told[k]);
                for (int a = 0; a < 5; a++) {
                    due("of(" + a + ", 10) by " + told[k], x.of(a, 10), a == watched[k] ? 1 : 0);
                }
            }
            // STOPPED ones came, too.
            ActorTrees x = broom(SOME, SUM, SUM, WATCH, SUM, SUM);
            due("stop(1)", x.stop(1), 1);
            dealt(x, 2, 4);
            due("watcher(4, 0)", x.watcher(4, 0), 2);
        });
        edge(TERMS, "itself: nothing", broken("if (watched == a || !isActor(watched)) { ==> if (!isActor(watched)) {"), () -> {
            ActorTrees x = broom(SOME, WATCH, WATCH);
            dealt(x, 1, 1, 3, 99);
            dealt(x, 0, 0);
            due("of(1, 10)", x.of(1, 10), 0);
            due("of(0, 10)", x.of(0, 10), 0);
            due("count(2)", x.count(2), 0);
            due("count(5)", x.count(5), 4);
        });
        edge(TERMS, "STOPPED: it is SENT THE DEATH of that", broken(
            "send(a, a, DEATH + watched); ==> if (actors[a].count == 0) { send(a, a, DEATH + watched); }",
            "send(a, a, DEATH + watched); ==> actors[watched].watchers.add(a); send(a, a, DEATH + watched);",
            "if (!isLive(watched)) {\n                send ==> if (false) {\n                send"), () -> {
            ActorTrees x = broom(SOME, SUM, WATCH, SUM);
            due("stop(2)", x.stop(2), 1);
            tellAll(x, 1, 2, 5);
            due("run(1)", x.run(1), 1);
            mailboxIs(x, 1, 105, 302);
            due("run(2)", x.run(2), 2);
            due("counted(1)", x.counted(1), 102);
            mailboxIs(x, 1, 302);
            due("of(2, 10)", x.of(2, 10), 0);
            due("run(9)", x.run(9), 1);
            due("counted(1)", x.counted(1), 204);
            dealt(x, 1, 99 - 1);
            mailboxIs(x, 1, 302);
        });
        edge(TERMS, "else it is one of its WATCHERS, behind all, if it isn't yet", broken(
            "} else if (!actors[watched].watchers.has(a)) { ==> } else {",
            "if (items[i] == v) {\n                    return true; ==> if (i > 0 && items[i] == v) {\n                    return true;"), () -> {
            ActorTrees x = broom(SOME, SUM, WATCH, WATCH, SUM);
            dealt(x, 2, 3);
            dealt(x, 1, 3, 3, 7);
            dealt(x, 2, 3);
            due("of(3, 10)", x.of(3, 10), 2);
            due("watcher(3, 0)", x.watcher(3, 0), 2);
            due("watcher(3, 1)", x.watcher(3, 1), 1);
            due("stop(3)", x.stop(3), 1);
            mailboxIs(x, 1, 303);
            mailboxIs(x, 2, 303);
        });
        edge(TERMS, "9 QUIT: it STOPS", broken("halt(a);\n ==> if (n != 0) { halt(a); }\n", "halt(a);\n ==> fail(a, 9);\n"), () -> {
            for (int n : new int[] {-99, 0, 99}) {
                ActorTrees x = broom(SOME, SUM, QUIT, SUM);
                due("actor(1)", x.actor(1, SUM, SOME), 3);
                tellAll(x, 1, n);
                due("run(9)", x.run(9), 1);
                due("of(1, 5)", x.of(1, 5), 0);
                due("of(3, 5)", x.of(3, 5), 0);
                due("count(1)", x.count(1), 2);
                due("count(7)", x.count(7), 0);
                due("of(0, 12)", x.of(0, 12), 0);
                due("ended()", x.ended(), 1);
            }
        });
        edge(TERMS, "9 QUIT: it STOPS -- THE ROOT", broken("halt(a);\n ==> if (a != THE_ROOT) { halt(a); }\n"), () -> {
            ActorTrees x = broom(SOME, QUIT, SUM);
            tellAll(x, 0, 1);
            due("run(1)", x.run(1), 1);
            due("ended()", x.ended(), 2);
            due("count(1)", x.count(1), 0);
        });
    }

    private static void fromIt() {
        edge(TERMS, "What one SENDS is from it. -- PASS and FAN", broken(
            "send(a, parent, n); ==> send(a, NONE, n);",
            "send(a, parent, n); ==> send(a, a, n);"), () -> {
            for (int own : new int[] {PASS, FAN}) {
                ActorTrees x = broom(SOME, SUM, own);
                due("actor(1)", x.actor(1, SUM, SOME), 2);
                due("tell(1, 0, 5)", x.tell(1, 0, 5), 1);
                due("run(1)", x.run(1), 1);
                mailboxIs(x, 2, 105);
                due("sender(2, 0, false)", x.sender(2, 0, false), 1);
            }
        });
        edge(TERMS, "What one SENDS is from it. -- ECHO", broken(
            "send(from, a, n - 1); ==> send(from, from, n - 1);",
            "send(from, a, n - 1); ==> send(from, NONE, n - 1);"), () -> {
            ActorTrees x = broom(SOME, SUM, ECHO, SUM);
            due("tell(1, 2, 5)", x.tell(1, 2, 5), 1);
            due("run(1)", x.run(1), 1);
            due("sender(2, 0, false)", x.sender(2, 0, false), 1);
        });
        edge(TERMS, "What one SENDS is from it. -- WATCH of one STOPPED", broken(
            "send(a, a, DEATH + watched); ==> send(a, NONE, DEATH + watched);",
            "send(a, a, DEATH + watched); ==> send(a, watched, DEATH + watched);"), () -> {
            ActorTrees x = broom(SOME, SUM, WATCH, SUM);
            due("stop(2)", x.stop(2), 1);
            dealt(x, 1, 2);
            mailboxIs(x, 1, 302);
            due("sender(1, 0, false)", x.sender(1, 0, false), 1);
        });
    }

    // ---- STOPS

    /** 1 with the CHILDREN 3 and 4, and 5 below 3; 2 is one of the WATCHERS of all four. */
    private static ActorTrees family() {
        ActorTrees x = broom(SOME, SUM, SUM, WATCH);
        due("actor(1)", x.actor(1, SUM, SOME), 3);
        due("actor(1)", x.actor(1, SUM, SOME), 4);
        due("actor(3)", x.actor(3, SUM, SOME), 5);
        dealt(x, 2, 1, 3, 4, 5);
        return x;
    }

    private static void stops() {
        edge(TERMS, "its LIVE CHILDREN STOP first, the greatest number first", broken(
            "for (int a = came - 1; a > parent; a--) { ==> for (int a = parent + 1; a < came; a++) {",
            "if (child != NONE) { ==> if (false) {"), () -> {
            ActorTrees x = family();
            due("stop(1)", x.stop(1), 4);
            mailboxIs(x, 2, 304, 305, 303, 301);
        });
        edge(TERMS, "its LIVE CHILDREN STOP first, the greatest number first -- none, and twelve in a chain", broken(
            "round < 2 * MOST_ACTORS ==> round < 20"), () -> {
            ActorTrees x = chain(SOME, 0, 0, 0, 0, 0, 0, 0, 0, 0, 0, 0, 0);
            due("stop(11)", x.stop(11), 1);
            due("count(1)", x.count(1), 11);
            x = chain(SOME, 0, 0, 0, 0, 0, 0, 0, 0, 0, 0, 0, 0);
            due("stop(0)", x.stop(0), 12);
            due("count(1)", x.count(1), 0);
        });
        edge(TERMS, "then it is STOPPED: MAILBOX, STASH, STACK but the OWN one, TIMERS of it go (no DEAD LETTERS)", broken(
            "one.mailbox.size = 0; ==> ",
            "one.stash.size = 0;\n                one.keepOwnOnly(); ==> one.keepOwnOnly();",
            "one.keepOwnOnly(); ==> ",
            "timers.removeOf(at); ==> ",
            "one.mailbox.size = 0; ==> deadLetters += one.mailbox.size; one.mailbox.size = 0;",
            "one.stash.size = 0;\n                one.keepOwnOnly(); ==> unstash(one); one.keepOwnOnly();",
            "if (owners[i] != owner) { ==> if (owners[i] < owner) {",
            "if (owners[i] != owner) { ==> if (owners[i] > owner) {"), () -> {
            ActorTrees x = broom(SOME, DELAY, SWITCH, HOLD, DELAY, DELAY);
            dealt(x, 0, 4);
            dealt(x, 1, 4, 4);
            dealt(x, 2, 1, 3);
            dealt(x, 3, 5, 6);
            dealt(x, 4, 1);
            for (int a = 1; a <= 3; a++) {
                tellAll(x, a, 8, 9);
                due("stop", x.stop(a), 1);
                mailboxIs(x, a);
                stashIs(x, a);
                due("of(" + a + ", 7)", x.of(a, 7), 1);
                due("of(" + a + ", 11)", x.of(a, 11), 0);
            }
            due("stack(1, 0)", x.stack(1, 0), SWITCH);
            due("count(3)", x.count(3), 2);
            due("timer(0, 0)", x.timer(0, 0), 4);
            due("timer(1, 0)", x.timer(1, 0), 0);
            due("count(4)", x.count(4), 0);
        });
        edge(TERMS, "then it is STOPPED: MAILBOX, STASH, STACK but the OWN one, TIMERS of it go (no DEAD LETTERS) -- of ten TIMERS", broken(
            "if (owners[i] != owner) {\n                    move(i, left); ==> if (owners[i] != owner && i < 9) {\n                    move(i, left);",
            "i < size && i < MOST_TIMERS; i++) {\n                if (owners ==> i < size && i < MOST_TIMERS - 1; i++) {\n                if (owners"), () -> {
            ActorTrees x = broom(SOME, SUM, DELAY, DELAY);
            dealt(x, 1, 1, 1, 1, 1, 1);
            dealt(x, 2, 2, 2, 2, 2, 5);
            due("count(3)", x.count(3), 10);
            due("stop(1)", x.stop(1), 1);
            due("count(3)", x.count(3), 5);
            due("timer(4, 0)", x.timer(4, 0), 2);
            due("timer(4, 1)", x.timer(4, 1), 6);
            due("timer(4, 2)", x.timer(4, 2), 104);
            due("stop(2)", x.stop(2), 1);
            due("count(3)", x.count(3), 0);
        });
        edge(TERMS, "COUNT stays; what it noted goes", broken(
            "one.live = false; ==> one.live = false; one.count = 0;",
            "stack.add(own);\n            notes.size = 0; ==> stack.add(own);"), () -> {
            ActorTrees x = chain(SOME, SUM, SUM, FRAIL);
            dealt(x, 1, -99);
            dealt(x, 2, -1, -1);
            due("of(1, 12)", x.of(1, 12), 2);
            due("stop(1)", x.stop(1), 2);
            due("counted(1)", x.counted(1), -99);
            due("of(1, 12)", x.of(1, 12), 0);
        });
    }

    private static void stopsTelling() {
        edge(TERMS, "it goes from all rows of WATCHERS", broken(
            "actors[b].watchers.remove(at); ==> ",
            "actors[b].watchers.remove(at); ==> actors[b].watchers.size = 0;"), () -> {
            ActorTrees x = broom(SOME, SUM, WATCH, WATCH, SUM);
            dealt(x, 1, 0, 2, 3);
            dealt(x, 2, 0, 3);
            due("stop(1)", x.stop(1), 1);
            due("of(0, 10)", x.of(0, 10), 1);
            due("of(2, 10)", x.of(2, 10), 0);
            due("of(3, 10)", x.of(3, 10), 1);
            due("watcher(0, 0)", x.watcher(0, 0), 2);
            due("watcher(3, 0)", x.watcher(3, 0), 2);
            due("stop(3)", x.stop(3), 1);
            due("count(4)", x.count(4), 0);
        });
        edge(TERMS, "it goes from all rows of WATCHERS -- from that of the last of 12", broken(
            "b < came && b < MOST_ACTORS; b++) ==> b < came && b < MOST_ACTORS - 1; b++)",
            "b < came && b < MOST_ACTORS; b++) ==> b < at; b++)"), () -> {
            ActorTrees x = twelve(WATCH);
            dealt(x, 1, 11, 0);
            due("of(11, 10)", x.of(11, 10), 1);
            due("stop(1)", x.stop(1), 1);
            due("of(11, 10)", x.of(11, 10), 0);
            due("of(0, 10)", x.of(0, 10), 0);
        });
        String own = "its own WATCHERS, in their row, are SENT THE DEATH of it (from -1), and the row is empty";
        edge(TERMS, own, broken(
            "send(one.watchers.at(i), NONE, DEATH + at); ==> send(one.watchers.at(i), at, DEATH + at);",
            "one.watchers.size = 0;\n                stopped++; ==> stopped++;",
            "i < one.watchers.size; i++) { ==> i < one.watchers.size && i < 1; i++) {"), () -> {
            ActorTrees x = broom(SOME, WATCH, WATCH, SUM);
            dealt(x, 0, 2);
            dealt(x, 1, 2);
            due("stop(2)", x.stop(2), 1);
            mailboxIs(x, 0, 302);
            mailboxIs(x, 1, 302);
            due("sender(0, 0, false)", x.sender(0, 0, false), -1);
            due("of(2, 10)", x.of(2, 10), 0);
            due("watcher(2, 0)", x.watcher(2, 0), NOT);
        });
        edge(TERMS, own + " -- one that has 12", broken("if (!comes) { ==> if (!comes && body < DEATH) {"), () -> {
            ActorTrees x = broom(SOME, WATCH, SUM);
            dealt(x, 0, 1);
            tellAll(x, 0, 1, 1, 1, 1, 1, 1, 1, 1, 1, 1, 1, 1);
            due("stop(1)", x.stop(1), 1);
            due("of(0, 8)", x.of(0, 8), 12);
            due("count(4)", x.count(4), 1);
        });
        edge(TERMS, own + " -- a CHILD of it, STOPPED ahead", broken("actors[b].watchers.remove(at); ==> "), () -> {
            ActorTrees x = chain(SOME, SUM, SUM, WATCH);
            dealt(x, 2, 1);
            due("of(1, 10)", x.of(1, 10), 1);
            due("stop(1)", x.stop(1), 2);
            due("count(4)", x.count(4), 0);
            due("count(2)", x.count(2), 0);
        });
        edge(TERMS, own + " -- its PARENT, STOPPED behind it", broken(
            "boolean comes = isLive(to) && ==> boolean comes = isLive(to) && (body < DEATH || to > body - DEATH) &&"), () -> {
            ActorTrees x = broom(SOME, SUM, WATCH);
            due("actor(1)", x.actor(1, SUM, SOME), 2);
            dealt(x, 1, 2);
            due("stop(1)", x.stop(1), 2);
            due("count(2)", x.count(2), 0);
            due("count(4)", x.count(4), 0);
        });
    }

    // ---- one that FAILED

    private static void fails() {
        edge(TERMS, "THE ROOT: it STOPS (THE SYSTEM is DOWN)", broken(
            "halt(THE_ROOT);\n                return; ==> restart(THE_ROOT);\n                return;"), () -> {
            ActorTrees x = broom(SOME, FRAIL, SUM);
            tellAll(x, 0, -1);
            due("run(9)", x.run(9), 1);
            due("ended()", x.ended(), 2);
            due("count(1)", x.count(1), 0);
            causesAre(x, 0, 1);
        });
        String noted = "how many it noted at TIME less WINDOW and later";
        edge(TERMS, noted + " -- just at TIME less WINDOW", broken(
            "removeBelow(time - parent.window) ==> removeBelow(time - parent.window + 1)",
            "if (items[i] >= least) { ==> if (items[i] > least) {"), () -> {
            ActorTrees x = broom(103, SUM, FRAIL, DELAY);
            dealt(x, 1, -1);
            dealt(x, 2, 2);
            due("run(1)", x.run(1), 1);
            due("count(6)", x.count(6), 3);
            due("of(0, 12)", x.of(0, 12), 1);
            tellAll(x, 1, -1);
            due("run(2)", x.run(2), 1);
            due("ended()", x.ended(), 2);
            causesAre(x, 0, 9, 1, 1);
        });
        edge(TERMS, noted + " -- earlier by one", broken(
            "removeBelow(time - parent.window) ==> removeBelow(time - parent.window - 1)"), () -> {
            ActorTrees x = broom(103, SUM, FRAIL, DELAY);
            dealt(x, 1, -1);
            dealt(x, 2, 3);
            due("run(2)", x.run(2), 2);
            due("count(6)", x.count(6), 4);
            due("of(0, 12)", x.of(0, 12), 0);
            tellAll(x, 1, -1);
            due("run(1)", x.run(1), 1);
            due("of(0, 5)", x.of(0, 5), 1);
            due("of(0, 12)", x.of(0, 12), 1);
            causesAre(x, 1, 1);
        });
        edge(TERMS, noted + " -- some earlier, some later", broken(
            "if (items[i] >= least) {\n                    items[left] = items[i]; ==> if (items[i] >= least) {"), () -> {
            // Noted at 0, 2, 3 and 5, each a failure of 1; 2 lets TIME go on.
            ActorTrees x = broom(903, SUM, FRAIL, DELAY);
            dealt(x, 1, -1);
            dealt(x, 2, 1);
            due("run(2)", x.run(2), 2);
            dealt(x, 1, -1);
            dealt(x, 2, 8);
            due("run(1)", x.run(1), 1);
            due("count(6)", x.count(6), 3);
            tellAll(x, 1, -1);
            due("run(2)", x.run(2), 2);
            due("of(0, 12)", x.of(0, 12), 3);
            due("stop(2)", x.stop(2), 1);
            due("actor(0)", x.actor(0, DELAY, SOME), 3);
            dealt(x, 3, 1);
            due("run(1)", x.run(1), 1);
            due("count(6)", x.count(6), 5);
            tellAll(x, 1, -1);
            due("run(2)", x.run(2), 2);
            due("of(0, 12)", x.of(0, 12), 3);
            dealt(x, 3, 8);
            due("run(1)", x.run(1), 1);
            due("count(6)", x.count(6), 6);
            due("of(0, 12)", x.of(0, 12), 2);
        });
        edge(TERMS, "(PARENT's WINDOW;", broken("removeBelow(time - parent.window) ==> removeBelow(time - actors[failed].window)"), () -> {
            ActorTrees x = new ActorTrees();
            due("actor(-1)", x.actor(-1, SUM, 101), 0);
            due("actor(0)", x.actor(0, FRAIL, 950), 1);
            due("actor(0)", x.actor(0, DELAY, 950), 2);
            dealt(x, 1, -1);
            dealt(x, 2, 1);
            due("run(2)", x.run(2), 2);
            due("count(6)", x.count(6), 2);
            dealt(x, 1, -1);
            due("of(0, 5)", x.of(0, 5), 1);
        });
        edge(TERMS, "more than its BUDGET: the PARENT FAILS, why 9 -- a BUDGET of 0", broken(
            "parent.notes.size > parent.budget; ==> parent.notes.size > Math.max(1, parent.budget);",
            "WHY_BUDGET = 9 ==> WHY_BUDGET = 5"), () -> {
            ActorTrees x = broom(50, SUM, FRAIL);
            tellAll(x, 1, -1);
            due("run(9)", x.run(9), 1);
            due("ended()", x.ended(), 2);
            causesAre(x, 0, 9, 1, 1);
        });
        edge(TERMS, "more than its BUDGET: the PARENT FAILS, why 9 -- a BUDGET of 9", broken(
            "parent.notes.size > parent.budget; ==> parent.notes.size >= parent.budget;",
            "notes = new Numbers(MOST_BUDGET + 1) ==> notes = new Numbers(MOST_BUDGET)"), () -> {
            ActorTrees x = broom(950, SUM, FRAIL);
            for (int k = 1; k <= 9; k++) {
                dealt(x, 1, -1);
                due("of(0, 12)", x.of(0, 12), k);
                due("count(1)", x.count(1), 2);
            }
            dealt(x, 1, -1);
            due("count(1)", x.count(1), 0);
            causesAre(x, 0, 9, 1, 1);
        });
        edge(TERMS, "the same for it, and so on", broken(
            "level < MOST_ACTORS && isOver ==> level < 10 && isOver",
            "causes = new Pairs(MOST_ACTORS) ==> causes = new Pairs(11)"), () -> {
            ActorTrees x = chain(1, 0, 0, 0, 0, 0, 0, 0, 0, 0, 0, 0, FRAIL);
            dealt(x, 11, -1);
            due("count(1)", x.count(1), 0);
            causesAre(x, 0, 9, 1, 9, 2, 9, 3, 9, 4, 9, 5, 9, 6, 9, 7, 9, 8, 9, 9, 9, 10, 9, 11, 1);
        });
        edge(TERMS, "the same for it, and so on -- up to one whose BUDGET bears it", broken(
            "causes.add(top, WHY_BUDGET); ==> causes.add(top, WHY_BUDGET); top = THE_ROOT;"), () -> {
            ActorTrees x = new ActorTrees();
            due("actor(-1)", x.actor(-1, SUM, 101), 0);
            due("actor(0)", x.actor(0, SUM, 1), 1);
            due("actor(1)", x.actor(1, FRAIL, 1), 2);
            dealt(x, 1, 7);
            dealt(x, 2, -1);
            causesAre(x, 1, 9, 2, 1);
            due("of(1, 5)", x.of(1, 5), 1);
            due("counted(1)", x.counted(1), 0);
            due("of(2, 5)", x.of(2, 5), 0);
            due("of(0, 12)", x.of(0, 12), 1);
            due("of(1, 12)", x.of(1, 12), 0);
        });
    }

    private static final String WHO = "by its PARENT's STRATEGY that one; or all LIVE CHILDREN of the PARENT; or that one and the LIVE ones among these that came later; by numbers";

    /** A root of a STRATEGY and the CHILDREN 1 to 5, each with a COUNT of 7 (but 3, FRAIL); 3 FAILS. */
    private static ActorTrees thirdFails(int strategy, int stopped) {
        ActorTrees x = broom(1000 * strategy + 950, SUM, SUM, SUM, FRAIL, SUM, SUM);
        for (int a : new int[] {1, 2, 4, 5}) {
            dealt(x, a, 7);
        }
        due("actor(1)", x.actor(1, SUM, SOME), 6);
        if (stopped > 0) {
            due("stop", x.stop(stopped), 1);
        }
        dealt(x, 3, -1);
        return x;
    }

    private static void countsAre(ActorTrees x, int... counts) {
        for (int k = 0; k < counts.length; k++) {
            due("counted(" + (k + 1) + ")", x.counted(k + 1), counts[k]);
        }
    }

    private static void restartedOnes() {
        edge(TERMS, WHO + " -- ONE", broken(
            "return b == failed || strategy == ALL || strategy == REST && b > failed; ==> return true;"), () -> {
            ActorTrees x = thirdFails(0, 0);
            countsAre(x, 7, 7, 0, 7, 7);
            due("of(6, 5)", x.of(6, 5), 1);
        });
        edge(TERMS, WHO + " -- ALL, but for STOPPED ones", broken(
            "strategy == ALL ==> strategy == 9",
            "!isLiveChild(b, actors[failed].parent) ==> !isActor(b) || actors[b].parent != actors[failed].parent"), () -> {
            ActorTrees x = thirdFails(1, 5);
            countsAre(x, 0, 0, 0, 0, 7);
            due("of(5, 5)", x.of(5, 5), 0);
            due("of(6, 5)", x.of(6, 5), 0);
        });
        edge(TERMS, WHO + " -- REST, but for STOPPED ones", broken(
            "b > failed; ==> b < failed;",
            "b > failed; ==> b > 0;",
            "!isLiveChild(b, actors[failed].parent) ==> !isActor(b) || actors[b].parent != actors[failed].parent"), () -> {
            ActorTrees x = thirdFails(2, 4);
            countsAre(x, 7, 7, 0, 7, 0);
            due("of(4, 5)", x.of(4, 5), 0);
            due("of(6, 5)", x.of(6, 5), 1);
        });
        edge(TERMS, WHO + " -- not its own STRATEGY", broken(
            "int strategy = actors[actors[failed].parent].strategy; ==> int strategy = actors[failed].strategy;"), () -> {
            ActorTrees x = new ActorTrees();
            due("actor(-1)", x.actor(-1, SUM, 901), 0);
            due("actor(0)", x.actor(0, FRAIL, 1901), 1);
            due("actor(0)", x.actor(0, SUM, 1901), 2);
            dealt(x, 2, 7);
            dealt(x, 1, -1);
            due("counted(2)", x.counted(2), 7);
        });
        edge(TERMS, WHO + " -- in their order", broken(
            "for (int b = 0; b < came; b++) { ==> for (int b = came - 1; b >= 0; b--) {"), () -> {
            // 3 is one of the WATCHERS of 5, below 2, and of 6, below 1.
            ActorTrees x = broom(1905, SUM, SUM, SUM, WATCH, FRAIL);
            due("actor(2)", x.actor(2, SUM, SOME), 5);
            due("actor(1)", x.actor(1, SUM, SOME), 6);
            dealt(x, 3, 5, 6);
            dealt(x, 4, -1);
            mailboxIs(x, 3, 306, 305);
        });
    }

    private static void restarted() {
        edge(TERMS, "RESTARTED: its LIVE CHILDREN STOP, the greatest first", broken(
            "for (int child = MOST_ACTORS - 1; child > a; child--) { ==> for (int child = a + 1; child < MOST_ACTORS; child++) {",
            "if (isLiveChild(child, a)) {\n                    halt(child); ==> if (false) {\n                    halt(child);"), () -> {
            ActorTrees x = family();
            due("brings(1, 0)", x.brings(1, 0), 2);
            due("brings(1, 1)", x.brings(1, 1), 8 + 16 + 32);
            ActorTrees y = broom(SOME, SUM, FRAIL, WATCH);
            due("actor(1)", y.actor(1, SUM, SOME), 3);
            due("actor(1)", y.actor(1, SUM, SOME), 4);
            due("actor(3)", y.actor(3, SUM, SOME), 5);
            dealt(y, 2, 3, 4, 5);
            dealt(y, 1, -1);
            mailboxIs(y, 2, 304, 305, 303);
            due("of(1, 5)", y.of(1, 5), 1);
        });
        edge(TERMS, "RESTARTED: its LIVE CHILDREN STOP, the greatest first -- ten of them", broken(
            "for (int child = MOST_ACTORS - 1; child > a; ==> for (int child = MOST_ACTORS - 2; child > a;"), () -> {
            ActorTrees x = broom(SOME, SUM, FRAIL);
            for (int a = 2; a < 12; a++) {
                due("actor(1)", x.actor(1, SUM, SOME), a);
            }
            dealt(x, 1, -1);
            due("count(1)", x.count(1), 2);
            due("of(11, 5)", x.of(11, 5), 0);
        });
        edge(TERMS, "COUNT is 0, the STACK is its OWN one alone, TIMERS of it and what it noted go", broken(
            "actors[a].count = 0; ==> ",
            "actors[a].keepOwnOnly(); ==> ",
            "timers.removeOf(a); ==> ",
            "stack.add(own);\n            notes.size = 0; ==> stack.add(own);",
            "timers.removeOf(a); ==> timers.size = 0;"), () -> {
            ActorTrees x = broom(1905, SUM, SWITCH, DELAY, FRAIL, SUM, SUM);
            due("actor(4)", x.actor(4, FRAIL, SOME), 6);
            due("tell(0)", x.tell(0, -1, 9), 1);
            due("run(1)", x.run(1), 1);
            dealt(x, 1, 4, 6, 5);
            dealt(x, 2, 6, 7);
            dealt(x, 4, 44);
            dealt(x, 6, -1);
            due("of(4, 12)", x.of(4, 12), 1);
            due("count(3)", x.count(3), 3);
            dealt(x, 3, -1);
            due("of(1, 7)", x.of(1, 7), 1);
            due("stack(1, 0)", x.stack(1, 0), SWITCH);
            due("count(3)", x.count(3), 0);
            due("counted(4)", x.counted(4), 0);
            due("of(4, 12)", x.of(4, 12), 0);
            due("counted(0)", x.counted(0), 9);
        });
        edge(TERMS, "COUNT is 0, the STACK is its OWN one alone, TIMERS of it and what it noted go -- not those of others", broken(
            "timers.removeOf(a); ==> timers.size = 0;"), () -> {
            ActorTrees x = broom(905, DELAY, FRAIL, DELAY);
            due("tell(0)", x.tell(0, -1, 6), 1);
            due("run(1)", x.run(1), 1);
            dealt(x, 2, 7);
            dealt(x, 1, -1);
            due("count(3)", x.count(3), 2);
            due("of(0, 12)", x.of(0, 12), 1);
        });
        String stash = "its STASH comes back to the MAILBOX as by HOLD";
        edge(TERMS, stash + " -- room for all", broken(
            "unstash(actors[a]); ==> ",
            "unstash(actors[a]); ==> actors[a].stash.size = 0;"), () -> {
            ActorTrees x = broom(1905, SUM, HOLD, FRAIL);
            dealt(x, 1, 1, 3, 5, 7, 9, 11);
            tellAll(x, 2, -1);
            tellAll(x, 1, 20, 22, 24, 26, 28, 30);
            due("run(1)", x.run(1), 1);
            mailboxIs(x, 1, 101, 103, 105, 107, 109, 111, 120, 122, 124, 126, 128, 130);
            stashIs(x, 1);
            due("count(4)", x.count(4), 0);
        });
        edge(TERMS, stash + " -- no room at all", broken(
            "deadLetters += one.stash.size - one.mailbox.putAhead(one.stash); ==> one.mailbox.putAhead(one.stash);",
            "deadLetters += one.stash.size - one.mailbox.putAhead(one.stash); ==> one.mailbox.size = Math.min(11, one.mailbox.size); deadLetters += one.stash.size - one.mailbox.putAhead(one.stash);"), () -> {
            ActorTrees x = broom(1905, SUM, HOLD, FRAIL);
            dealt(x, 1, 1, 3, 5, 7, 9, 11);
            tellAll(x, 2, -1);
            tellAll(x, 1, 20, 22, 24, 26, 28, 30, 32, 34, 36, 38, 40, 42);
            due("run(1)", x.run(1), 1);
            mailboxIs(x, 1, 120, 122, 124, 126, 128, 130, 132, 134, 136, 138, 140, 142);
            stashIs(x, 1);
            due("count(4)", x.count(4), 6);
        });
        edge(TERMS, "WATCHERS stay.", broken(
            "actors[a].count = 0; ==> actors[a].count = 0; actors[a].watchers.size = 0;",
            "actors[a].count = 0; ==> actors[a].count = 0; for (int b = 0; b < came; b++) { actors[b].watchers.remove(a); }"), () -> {
            ActorTrees x = broom(1905, SUM, WATCH, FRAIL, WATCH);
            dealt(x, 1, 3, 2);
            dealt(x, 3, 1);
            dealt(x, 2, -1);
            due("watcher(3, 0)", x.watcher(3, 0), 1);
            due("watcher(2, 0)", x.watcher(2, 0), 1);
            due("watcher(1, 0)", x.watcher(1, 0), 3);
            due("count(2)", x.count(2), 0);
        });
        edge(TERMS, "(The MESSAGE by which it FAILED is gone.)", broken(
            "fail(dealer, why); ==> fail(dealer, why); send(dealer, from, body);"), () -> {
            ActorTrees x = broom(SOME, SUM, FRAIL);
            tellAll(x, 1, -1, 5);
            due("run(1)", x.run(1), 1);
            mailboxIs(x, 1, 105);
            due("count(4)", x.count(4), 0);
        });
        edge(TERMS, "What it SENT ahead of a failure stays.", broken(
            "actors[a].count = 0; ==> actors[a].count = 0; for (int b = 0; b < came; b++) { if (actors[b].mailbox.firstAt(0) == a) { actors[b].mailbox.removeFirst(); } }"), () -> {
            ActorTrees x = new ActorTrees();
            due("actor(-1)", x.actor(-1, SUM, SOME), 0);
            due("actor(0)", x.actor(0, ECHO, 1), 1);
            due("actor(1)", x.actor(1, FRAIL, 1), 2);
            due("actor(0)", x.actor(0, SUM, SOME), 3);
            due("tell(1, 3, 5)", x.tell(1, 3, 5), 1);
            due("run(1)", x.run(1), 1);
            tellAll(x, 2, -1);
            due("run(1)", x.run(1), 1);
            causesAre(x, 1, 9, 2, 1);
            mailboxIs(x, 3, 104);
            due("sender(3, 0, false)", x.sender(3, 0, false), 1);
        });
    }

    private static void causes() {
        String told = "CAUSES of the latest failure: from the one in which all ended (RESTARTS were made below it, or THE ROOT), down to the first: ACTOR and why.";
        edge(TERMS, told + " -- none yet", broken(
            "if (i >= causes.size) {\n            return NOT; ==> if (i >= causes.size) {\n            return 0;"), () -> {
            ActorTrees x = broom(SOME, SUM, QUIT);
            tellAll(x, 1, 1);
            due("run(1)", x.run(1), 1);
            due("stop(0)", x.stop(0), 1);
            causesAre(x);
        });
        edge(TERMS, told + " -- passed on", broken("int place = causes.size - 1 - i; ==> int place = i;"), () -> {
            ActorTrees x = chain(1, SUM, SUM, FRAIL);
            dealt(x, 2, -1);
            causesAre(x, 0, 9, 1, 9, 2, 1);
        });
        edge(TERMS, told + " -- only the latest", broken("causes.size = 0; ==> "), () -> {
            ActorTrees x = broom(SOME, SUM, FRAIL, SWITCH);
            dealt(x, 1, -1);
            causesAre(x, 1, 1);
            dealt(x, 2, 4, 4, 4, 4, 4);
            causesAre(x, 2, 4);
        });
    }
}
