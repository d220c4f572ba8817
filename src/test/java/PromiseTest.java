/** Each promise of the document by answers reckoned by hand: ordinary calls, edges, wrong calls. */
public final class PromiseTest extends Calls {
    private PromiseTest() {
    }

    public static void main(String[] args) {
        check = new Check("PromiseTest");
        where = "promise 1"; aNewObject();
        where = "promise 2"; actor();
        where = "promise 3"; tell();
        where = "promise 4"; of(); notedFailures();
        where = "promise 5"; counted();
        where = "promise 6"; message();
        where = "promise 7"; sender();
        where = "promise 8"; stack();
        where = "promise 9"; watcher();
        where = "promise 10"; timer();
        where = "promise 11"; stop(); stopTells();
        where = "promise 12"; run(); turns(); sum(); pass(); echo(); hold(); holdFull(); switches(); frail(); delay(); fan(); watch(); quit();
        where = "promise 12"; restartOne(); restartAll(); restartRest(); restartDetails(); restartStashes(); budgets(); windows(); rootFails();
        where = "promise 13"; ended();
        where = "promise 14"; log();
        where = "promise 15"; cause();
        where = "promise 16"; dry();
        where = "promise 17"; first();
        where = "promise 18"; quiet();
        where = "promise 19"; would();
        where = "promise 20"; brings();
        where = "promise 21"; reach();
        where = "promise 22"; feed();
        where = "promise 23"; script(); faultsOfForm(); linesThatCannotBe();
        where = "promise 24"; drawn();
        where = "promise 25"; seed();
        where = "promise 26"; order(); orderSteps();
        where = "promise 27"; image();
        where = "promise 28"; back();
        where = "promise 29"; hold29();
        where = "promise 30"; row();
        where = "promise 31"; put();
        where = "promise 32"; tells();
        where = "promise 33"; count();
        check.end();
    }

    // ---- actors, messages

    private static void aNewObject() {
        ActorTrees x = new ActorTrees();
        for (int what = 0; what <= 9; what++) {
            due("count(" + what + ")", x.count(what), 0);
        }
        due("ended()", x.ended(), 0);
        due("of(0, 1)", x.of(0, 1), BAD);
        due("seed(7)", x.seed(7), 1);
        due("back()", x.back(), STATE);
        due("tells(0, 0)", x.tells(0, 0), VOID);
        due("log(0)", x.log(0), NOT);
        due("cause(0, 0)", x.cause(0, 0), NOT);
        due("timer(0, 0)", x.timer(0, 0), NOT);
        due("BAD", ActorTrees.BAD, BAD);
        due("NOT", ActorTrees.NOT, NOT);
        due("FULL", ActorTrees.FULL, FULL);
        due("STATE", ActorTrees.STATE, STATE);
        due("VOID", ActorTrees.VOID, VOID);
    }

    private static void actor() {
        ActorTrees x = new ActorTrees();
        due("actor(0, 0, 105)", x.actor(0, 0, 105), BAD);
        due("actor(-2, 0, 105)", x.actor(-2, 0, 105), BAD);
        due("actor(-1, -1, 105)", x.actor(-1, -1, 105), BAD);
        due("actor(-1, 10, 105)", x.actor(-1, 10, 105), BAD);
        due("actor(-1, 0, 100)", x.actor(-1, 0, 100), BAD);
        due("actor(-1, 0, 151)", x.actor(-1, 0, 151), BAD);
        due("actor(-1, 0, 3001)", x.actor(-1, 0, 3001), BAD);
        due("actor(-1, 0, -1)", x.actor(-1, 0, -1), BAD);
        due("actor(-1, 0, -5)", x.actor(-1, 0, LOW), BAD);
        due("actor(-1, 0, HIGH)", x.actor(-1, 0, HIGH), BAD);
        due("count(0)", x.count(0), 0);
        due("actor(-1, 9, 2950)", x.actor(-1, 9, 2950), 0);
        due("actor(-1, 0, 105)", x.actor(-1, 0, 105), BAD);
        due("actor(1, 0, 105)", x.actor(1, 0, 105), BAD);
        due("actor(LOW, 0, 105)", x.actor(LOW, 0, 105), BAD);
        due("actor(HIGH, 0, 105)", x.actor(HIGH, 0, 105), BAD);
        due("actor(0, 0, 1)", x.actor(0, 0, 1), 1);
        due("stop(1)", x.stop(1), 1);
        due("actor(1, 0, 1)", x.actor(1, 0, 1), STATE);
        due("actor(1, 10, 1)", x.actor(1, 10, 1), BAD);
        due("actor(1, 0, 0)", x.actor(1, 0, 0), BAD);
        for (int a = 2; a < 12; a++) {
            due("actor(0, 3, 250)", x.actor(0, 3, 250), a);
        }
        due("actor(0, 3, 250)", x.actor(0, 3, 250), FULL);
        due("actor(11, 3, 250)", x.actor(11, 3, 250), FULL);
        due("actor(1, 3, 250)", x.actor(1, 3, 250), STATE);
        due("actor(12, 3, 250)", x.actor(12, 3, 250), BAD);
        due("actor(0, 3, 3250)", x.actor(0, 3, 3250), BAD);
        due("actor(-1, 3, 250)", x.actor(-1, 3, 250), BAD);
        due("count(0)", x.count(0), 12);
        due("stop(0)", x.stop(0), 11);
        due("actor(-1, 3, 250)", x.actor(-1, 3, 250), BAD);
    }

    private static void tell() {
        ActorTrees x = new ActorTrees();
        due("tell(0, -1, 1)", x.tell(0, -1, 1), BAD);
        x = broom(SOME, SUM, SUM);
        due("tell(2, -1, 1)", x.tell(2, -1, 1), BAD);
        due("tell(-1, -1, 1)", x.tell(-1, -1, 1), BAD);
        due("tell(0, 2, 1)", x.tell(0, 2, 1), BAD);
        due("tell(0, -2, 1)", x.tell(0, -2, 1), BAD);
        due("tell(0, -1, 100)", x.tell(0, -1, 100), BAD);
        due("tell(0, -1, -100)", x.tell(0, -1, -100), BAD);
        due("tell(0, -1, LOW)", x.tell(0, -1, LOW), BAD);
        due("count(2)", x.count(2), 0);
        due("tell(0, -1, 99)", x.tell(0, -1, 99), 1);
        due("tell(0, 0, -99)", x.tell(0, 0, -99), 2);
        for (int k = 3; k <= 12; k++) {
            due("tell(0, 1, 5)", x.tell(0, 1, 5), k);
        }
        due("count(4)", x.count(4), 0);
        due("tell(0, 1, 5)", x.tell(0, 1, 5), STATE);
        due("count(4)", x.count(4), 1);
        due("tell(0, 1, 100)", x.tell(0, 1, 100), BAD);
        due("count(4)", x.count(4), 1);
        due("stop(1)", x.stop(1), 1);
        due("tell(1, -1, 5)", x.tell(1, -1, 5), STATE);
        due("count(4)", x.count(4), 2);
        due("run(1)", x.run(1), 1);
        due("tell(0, 1, 5)", x.tell(0, 1, 5), 12);
        due("sender(0, 11, false)", x.sender(0, 11, false), 1);
    }

    private static void of() {
        ActorTrees x = new ActorTrees();
        due("of(0, 0)", x.of(0, 0), BAD);
        x.actor(-1, WATCH, 2307);
        x.actor(0, SWITCH, 1950);
        x.actor(0, DELAY, 1);
        x.actor(1, HOLD, 50);
        int[] rootDue = {NOT, WATCH, 2, 3, 7, 1, WATCH, 1, 0, 0, 0, 0, 0, 6};
        int[] oneDue = {0, SWITCH, 1, 9, 50, 1, SWITCH, 1, 0, 0, 0, 0, 0, 8};
        int[] twoDue = {0, DELAY, 0, 0, 1, 1, DELAY, 1, 0, 0, 0, 0, 0, 0};
        int[] threeDue = {1, HOLD, 0, 0, 50, 1, HOLD, 1, 0, 0, 0, 0, 0, 0};
        for (int what = 0; what <= 13; what++) {
            due("of(0, " + what + ")", x.of(0, what), rootDue[what]);
            due("of(1, " + what + ")", x.of(1, what), oneDue[what]);
            due("of(2, " + what + ")", x.of(2, what), twoDue[what]);
            due("of(3, " + what + ")", x.of(3, what), threeDue[what]);
        }
        due("of(0, 14)", x.of(0, 14), BAD);
        due("of(0, -1)", x.of(0, -1), BAD);
        due("of(4, 0)", x.of(4, 0), BAD);
        due("of(-1, 0)", x.of(-1, 0), BAD);
        due("of(HIGH, 0)", x.of(HIGH, 0), BAD);
        tellAll(x, 0, 1);
        tellAll(x, 1, 17, 16);
        tellAll(x, 2, 3, 5);
        tellAll(x, 3, 1, 3, 7);
        due("run(6)", x.run(6), 6);
        due("of(1, 10)", x.of(1, 10), 1);
        due("of(1, 6)", x.of(1, 6), FAN);
        due("of(1, 7)", x.of(1, 7), 2);
        due("of(1, 8)", x.of(1, 8), 0);
        due("of(2, 11)", x.of(2, 11), 2);
        due("of(3, 9)", x.of(3, 9), 1);
        due("of(3, 8)", x.of(3, 8), 3);
        due("stop(1)", x.stop(1), 2);
        due("of(1, 5)", x.of(1, 5), 0);
        due("of(1, 6)", x.of(1, 6), SWITCH);
        due("of(1, 7)", x.of(1, 7), 1);
        due("of(1, 8)", x.of(1, 8), 0);
        due("of(1, 10)", x.of(1, 10), 0);
        due("of(3, 9)", x.of(3, 9), 0);
        due("of(0, 13)", x.of(0, 13), 6);
        due("of(1, 13)", x.of(1, 13), 8);
        due("of(0, 8)", x.of(0, 8), 1);
    }

    private static void notedFailures() {
        // A root with a WINDOW of 3: what was noted at TIME 0 counts up to TIME 3.
        ActorTrees x = broom(903, SUM, FRAIL, DELAY);
        tellAll(x, 1, -1, -1);
        due("run(2)", x.run(2), 2);
        due("of(0, 12)", x.of(0, 12), 2);
        tellAll(x, 2, 10);
        due("run(2)", x.run(2), 2);
        due("count(6)", x.count(6), 3);
        due("of(0, 12)", x.of(0, 12), 2);
        due("run(2)", x.run(2), 2);
        due("count(6)", x.count(6), 5);
        due("of(0, 12)", x.of(0, 12), 0);
        tellAll(x, 1, -1);
        due("run(1)", x.run(1), 1);
        due("of(0, 12)", x.of(0, 12), 1);
        due("of(1, 12)", x.of(1, 12), 0);
        // What is too old goes, what came behind it stays: noted at 0, 2, 4 and 5.
        x = broom(903, SUM, FRAIL, DELAY);
        int[] delays = {1, 1, 8};
        tellAll(x, 1, -1);
        due("run(1)", x.run(1), 1);
        for (int n : delays) {
            tellAll(x, 2, n);
            due("run(2)", x.run(2), 2);
            tellAll(x, 1, -1);
            due("run(2)", x.run(2), 2);
        }
        due("count(6)", x.count(6), 5);
        due("of(0, 12)", x.of(0, 12), 3);
        tellAll(x, 2, 8);
        due("run(2)", x.run(2), 2);
        due("count(6)", x.count(6), 6);
        due("of(0, 12)", x.of(0, 12), 2);
    }

    private static void counted() {
        ActorTrees x = new ActorTrees();
        due("counted(0)", x.counted(0), VOID);
        x = chain(SOME, SUM, SUM);
        due("counted(0)", x.counted(0), 0);
        due("counted(2)", x.counted(2), VOID);
        due("counted(-1)", x.counted(-1), VOID);
        due("counted(LOW)", x.counted(LOW), VOID);
        tellAll(x, 1, 99, -40);
        due("run(2)", x.run(2), 2);
        due("counted(1)", x.counted(1), 59);
        due("stop(1)", x.stop(1), 1);
        due("counted(1)", x.counted(1), 59);
    }

    private static void message() {
        ActorTrees x = broom(SOME, WATCH, HOLD, SUM);
        tellAll(x, 1, 5, -7, -99, 99, 0);
        mailboxIs(x, 1, 105, 93, 1, 199, 100);
        due("message(1, 0, true)", x.message(1, 0, true), NOT);
        due("run(2)", x.run(2), 2);
        due("message(1, 0, true)", x.message(1, 0, true), 105);
        due("message(1, 1, true)", x.message(1, 1, true), 93);
        due("message(1, 2, true)", x.message(1, 2, true), NOT);
        mailboxIs(x, 1, 1, 199, 100);
        tellAll(x, 0, 2);
        due("run(2)", x.run(2), 2);
        due("stop(2)", x.stop(2), 1);
        mailboxIs(x, 0, 302);
        due("message(1, -1, true)", x.message(1, -1, true), BAD);
        due("message(1, -1, false)", x.message(1, -1, false), BAD);
        due("message(1, HIGH, false)", x.message(1, HIGH, false), NOT);
        due("message(3, 0, false)", x.message(3, 0, false), BAD);
        due("message(-1, 0, true)", x.message(-1, 0, true), BAD);
    }

    private static void sender() {
        ActorTrees x = broom(SOME, FAN, HOLD, WATCH);
        due("tell(1, 2, 3)", x.tell(1, 2, 3), 1);
        due("tell(1, 0, 4)", x.tell(1, 0, 4), 2);
        due("tell(1, -1, 5)", x.tell(1, -1, 5), 3);
        due("sender(1, 0, false)", x.sender(1, 0, false), 2);
        due("sender(1, 1, false)", x.sender(1, 1, false), 0);
        due("sender(1, 2, false)", x.sender(1, 2, false), -1);
        due("sender(1, 3, false)", x.sender(1, 3, false), NOT);
        due("sender(1, -1, false)", x.sender(1, -1, false), NOT);
        due("sender(3, 0, false)", x.sender(3, 0, false), NOT);
        due("sender(-1, 0, false)", x.sender(-1, 0, false), NOT);
        due("sender(1, 0, true)", x.sender(1, 0, true), NOT);
        due("run(1)", x.run(1), 1);
        due("sender(1, 0, true)", x.sender(1, 0, true), 2);
        due("sender(1, 1, true)", x.sender(1, 1, true), NOT);
        due("sender(1, 0, false)", x.sender(1, 0, false), 0);
        due("run(1)", x.run(1), 1);
        due("sender(1, 0, false)", x.sender(1, 0, false), 2);
        // What one SENDS is from it: by FAN, and by WATCH of one that is STOPPED.
        tellAll(x, 0, 9);
        due("run(1)", x.run(1), 1);
        due("sender(2, 0, false)", x.sender(2, 0, false), 0);
        due("message(2, 0, false)", x.message(2, 0, false), 109);
        due("stop(1)", x.stop(1), 1);
        tellAll(x, 2, 1);
        due("run(2)", x.run(2), 2);
        due("message(2, 0, false)", x.message(2, 0, false), 301);
        due("sender(2, 0, false)", x.sender(2, 0, false), 2);
    }

    private static void stack() {
        ActorTrees x = broom(SOME, SWITCH);
        due("stack(0, 0)", x.stack(0, 0), SWITCH);
        due("stack(0, 1)", x.stack(0, 1), NOT);
        due("stack(0, -1)", x.stack(0, -1), BAD);
        due("stack(1, 0)", x.stack(1, 0), BAD);
        due("stack(-1, 0)", x.stack(-1, 0), BAD);
        tellAll(x, 0, 14, 24, 4, 97);
        due("run(4)", x.run(4), 4);
        due("stack(0, 1)", x.stack(0, 1), 4);
        due("stack(0, 3)", x.stack(0, 3), 4);
        due("stack(0, 4)", x.stack(0, 4), 7);
        due("stack(0, 5)", x.stack(0, 5), NOT);
        due("stack(0, HIGH)", x.stack(0, HIGH), NOT);
        due("stop(0)", x.stop(0), 1);
        due("stack(0, 0)", x.stack(0, 0), SWITCH);
        due("stack(0, 1)", x.stack(0, 1), NOT);
    }

    private static void watcher() {
        ActorTrees x = broom(SOME, WATCH, WATCH, WATCH, SUM);
        tellAll(x, 2, 3);
        due("run(1)", x.run(1), 1);
        tellAll(x, 0, 3, 3);
        tellAll(x, 1, 3, 0);
        due("run(4)", x.run(4), 4);
        due("watcher(3, 0)", x.watcher(3, 0), 2);
        due("watcher(3, 1)", x.watcher(3, 1), 0);
        due("watcher(3, 2)", x.watcher(3, 2), 1);
        due("watcher(3, 3)", x.watcher(3, 3), NOT);
        due("watcher(0, 0)", x.watcher(0, 0), 1);
        due("watcher(3, -1)", x.watcher(3, -1), BAD);
        due("watcher(4, 0)", x.watcher(4, 0), BAD);
        due("watcher(-1, 0)", x.watcher(-1, 0), BAD);
        due("watcher(3, HIGH)", x.watcher(3, HIGH), NOT);
        due("stop(2)", x.stop(2), 1);
        due("watcher(3, 0)", x.watcher(3, 0), 0);
        due("watcher(3, 2)", x.watcher(3, 2), NOT);
    }

    private static void timer() {
        ActorTrees x = broom(SOME, DELAY, DELAY);
        tellAll(x, 0, 8, 12, 4);
        tellAll(x, 1, 7, 9);
        due("run(5)", x.run(5), 5);
        // Set in this order: 0 by 8 for 1; 1 by 7 for 8; 0 by 12 for 5; 1 by 9 for 2; 0 by 4 for 5.
        int[][] wanted = {{0, 1, 107}, {1, 2, 108}, {0, 5, 111}, {0, 5, 103}, {1, 8, 106}};
        for (int i = 0; i < 5; i++) {
            for (int what = 0; what < 3; what++) {
                due("timer(" + i + ", " + what + ")", x.timer(i, what), wanted[i][what]);
            }
        }
        due("timer(5, 0)", x.timer(5, 0), NOT);
        due("timer(HIGH, 2)", x.timer(HIGH, 2), NOT);
        due("timer(-1, 0)", x.timer(-1, 0), BAD);
        due("timer(0, 3)", x.timer(0, 3), BAD);
        due("timer(0, -1)", x.timer(0, -1), BAD);
        due("timer(9, 3)", x.timer(9, 3), BAD);
        due("of(0, 11)", x.of(0, 11), 3);
        due("of(1, 11)", x.of(1, 11), 2);
        due("stop(1)", x.stop(1), 1);
        due("count(3)", x.count(3), 3);
        due("timer(1, 2)", x.timer(1, 2), 111);
        due("timer(2, 2)", x.timer(2, 2), 103);
        due("timer(3, 0)", x.timer(3, 0), NOT);
    }

    private static void stop() {
        ActorTrees x = new ActorTrees();
        due("stop(0)", x.stop(0), BAD);
        x = broom(SOME, SUM, SUM, SUM);
        due("actor(1, 0, 105)", x.actor(1, SUM, 105), 3);
        due("actor(3, 0, 105)", x.actor(3, SUM, 105), 4);
        tellAll(x, 3, 1, 2);
        due("stop(5)", x.stop(5), BAD);
        due("stop(-1)", x.stop(-1), BAD);
        due("stop(4)", x.stop(4), 1);
        due("stop(4)", x.stop(4), STATE);
        due("stop(1)", x.stop(1), 2);
        due("stop(3)", x.stop(3), STATE);
        due("count(1)", x.count(1), 2);
        due("count(2)", x.count(2), 0);
        due("count(4)", x.count(4), 0);
        due("stop(0)", x.stop(0), 2);
        due("count(1)", x.count(1), 0);
        due("ended()", x.ended(), 0);
    }

    private static void stopTells() {
        // The CHILDREN STOP first, the greatest first; each tells its WATCHERS, one that STOPPED is none any more.
        ActorTrees x = broom(SOME, SUM, SUM, WATCH);
        due("actor(1)", x.actor(1, SUM, SOME), 3);
        due("actor(1)", x.actor(1, WATCH, SOME), 4);
        due("actor(3)", x.actor(3, WATCH, SOME), 5);
        tellAll(x, 2, 1, 3, 4, 5);
        tellAll(x, 4, 3, 1);
        tellAll(x, 5, 1);
        due("run(7)", x.run(7), 7);
        due("of(1, 10)", x.of(1, 10), 3);
        due("of(3, 10)", x.of(3, 10), 2);
        due("stop(1)", x.stop(1), 4);
        mailboxIs(x, 2, 304, 305, 303, 301);
        due("sender(2, 0, false)", x.sender(2, 0, false), -1);
        due("count(4)", x.count(4), 0);
        due("run(9)", x.run(9), 4);
        due("counted(2)", x.counted(2), 400 + 4 + 5 + 3 + 1);
        // A WATCHER whose MAILBOX is full: the DEATH is a DEAD LETTER.
        x = broom(SOME, WATCH, SUM);
        tellAll(x, 0, 1);
        due("run(1)", x.run(1), 1);
        tellAll(x, 0, 1, 1, 1, 1, 1, 1, 1, 1, 1, 1, 1, 1);
        due("stop(1)", x.stop(1), 1);
        due("count(4)", x.count(4), 1);
        due("of(0, 8)", x.of(0, 8), 12);
    }

    // ---- steps: what RUN makes of the TERMS

    private static void run() {
        ActorTrees x = new ActorTrees();
        due("run(0)", x.run(0), BAD);
        due("run(201)", x.run(201), BAD);
        due("run(-1)", x.run(-1), BAD);
        due("run(HIGH)", x.run(HIGH), BAD);
        due("run(200)", x.run(200), 0);
        x = broom(SOME, SUM);
        tellAll(x, 0, 1, 2, 3);
        due("run(2)", x.run(2), 2);
        due("count(5)", x.count(5), 2);
        due("run(200)", x.run(200), 1);
        due("run(1)", x.run(1), 0);
        due("counted(0)", x.counted(0), 6);
        x = broom(SOME, DELAY, SUM);
        tellAll(x, 0, 99);
        due("run(200)", x.run(200), 199);
        due("count(3)", x.count(3), 0);
        due("count(5)", x.count(5), 100);
    }

    private static void turns() {
        ActorTrees x = broom(SOME, SUM, SUM, SUM, SUM);
        tellAll(x, 2, 1, 2);
        due("run(1)", x.run(1), 1);
        tellAll(x, 0, 3, 4);
        tellAll(x, 1, 5);
        tellAll(x, 3, 6);
        due("run(200)", x.run(200), 5);
        int[] wanted = {2301, 3306, 303, 1305, 2302, 304};
        for (int i = 0; i < wanted.length; i++) {
            due("log(" + i + ")", x.log(i), wanted[i]);
        }
        // The latest one dealt is 0: behind it 1 is next, and 11 stands ahead of 0.
        for (int a = 4; a < 12; a++) {
            due("actor(0)", x.actor(0, SUM, SOME), a);
        }
        tellAll(x, 11, 7);
        due("run(1)", x.run(1), 1);
        tellAll(x, 11, 8);
        tellAll(x, 0, 9);
        due("run(1)", x.run(1), 1);
        due("log(7)", x.log(7), 309);
    }

    private static void sum() {
        ActorTrees x = broom(SOME, SUM);
        tellAll(x, 0, 99, -99, -99, 0);
        due("run(4)", x.run(4), 4);
        due("counted(0)", x.counted(0), -99);
        due("count(2)", x.count(2), 0);
    }

    private static void pass() {
        ActorTrees x = broom(SOME, PASS, SUM, HOLD);
        tellAll(x, 0, 7, -8);
        due("run(2)", x.run(2), 2);
        due("counted(1)", x.counted(1), 7);
        due("run(2)", x.run(2), 2);
        due("counted(1)", x.counted(1), -1);
        due("stop(1)", x.stop(1), 1);
        tellAll(x, 0, 9);
        due("run(1)", x.run(1), 1);
        mailboxIs(x, 2, 109);
        due("sender(2, 0, false)", x.sender(2, 0, false), 0);
        due("stop(2)", x.stop(2), 1);
        tellAll(x, 0, 9);
        due("run(9)", x.run(9), 1);
        due("count(4)", x.count(4), 0);
    }

    private static void echo() {
        ActorTrees x = broom(SOME, ECHO, ECHO, SUM);
        due("tell(0, 1, 3)", x.tell(0, 1, 3), 1);
        due("run(1)", x.run(1), 1);
        mailboxIs(x, 1, 102);
        due("sender(1, 0, false)", x.sender(1, 0, false), 0);
        due("run(200)", x.run(200), 3);
        due("log(3)", x.log(3), 1300);
        due("tell(0, -1, 5)", x.tell(0, -1, 5), 1);
        due("tell(0, 2, 0)", x.tell(0, 2, 0), 2);
        due("tell(0, 2, -5)", x.tell(0, 2, -5), 3);
        due("tell(0, 2, 6)", x.tell(0, 2, 6), 4);
        due("run(200)", x.run(200), 5);
        due("counted(2)", x.counted(2), 5);
        due("stop(2)", x.stop(2), 1);
        due("tell(0, 2, 6)", x.tell(0, 2, 6), 1);
        due("run(200)", x.run(200), 1);
        due("count(4)", x.count(4), 1);
        due("tell(0, 0, 1)", x.tell(0, 0, 1), 1);
        due("run(200)", x.run(200), 2);
        due("counted(0)", x.counted(0), 0);
    }

    private static void hold() {
        ActorTrees x = broom(SOME, HOLD);
        tellAll(x, 0, 1, -3, 99, 2, 5);
        due("run(3)", x.run(3), 3);
        due("of(0, 9)", x.of(0, 9), 3);
        due("run(1)", x.run(1), 1);
        mailboxIs(x, 0, 101, 97, 199, 105);
        due("of(0, 9)", x.of(0, 9), 0);
        due("counted(0)", x.counted(0), 0);
        due("run(4)", x.run(4), 4);
        // The STASH of 4 comes back to a MAILBOX with room for 2: the first two come, two are DEAD LETTERS.
        tellAll(x, 0, -98, 21, 22, 23, 24, 25, 26, 27, 28, 29, 30);
        due("run(1)", x.run(1), 1);
        mailboxIs(x, 0, 101, 97, 121, 122, 123, 124, 125, 126, 127, 128, 129, 130);
        due("of(0, 9)", x.of(0, 9), 0);
        due("count(4)", x.count(4), 2);
    }

    private static void holdFull() {
        ActorTrees x = broom(SOME, SUM, HOLD);
        tellAll(x, 1, 1, 3, 5, 7, 9, 11);
        due("run(6)", x.run(6), 6);
        due("of(1, 9)", x.of(1, 9), 6);
        tellAll(x, 1, 13);
        due("run(1)", x.run(1), 1);
        due("cause(0, 1)", x.cause(0, 1), 3);
        mailboxIs(x, 1, 101, 103, 105, 107, 109, 111);
        due("count(4)", x.count(4), 0);
        // THE DEATH is not held: 1 is one of the WATCHERS of 3, is RESTARTED with ALL, and holds.
        x = broom(1905, SUM, SWITCH, FRAIL, SUM);
        tellAll(x, 1, 8, 3);
        due("run(2)", x.run(2), 2);
        tellAll(x, 2, -1);
        due("run(1)", x.run(1), 1);
        tellAll(x, 1, 3, 5);
        due("stop(3)", x.stop(3), 1);
        due("run(3)", x.run(3), 3);
        due("counted(1)", x.counted(1), 103);
        due("of(1, 9)", x.of(1, 9), 1);
    }

    private static void switches() {
        ActorTrees x = broom(SOME, SUM, SWITCH);
        tellAll(x, 1, 4, -50);
        due("run(1)", x.run(1), 1);
        due("of(1, 7)", x.of(1, 7), 2);
        due("run(1)", x.run(1), 1);
        due("of(1, 7)", x.of(1, 7), 1);
        tellAll(x, 1, -1, -99, 0, 5);
        due("run(3)", x.run(3), 3);
        due("of(1, 7)", x.of(1, 7), 2);
        due("of(1, 6)", x.of(1, 6), SUM);
        due("run(1)", x.run(1), 1);
        due("counted(1)", x.counted(1), 5);
        x = broom(SOME, SUM, SWITCH);
        tellAll(x, 1, 4, 34, 94, 44, -1, 14, 3);
        due("run(6)", x.run(6), 6);
        due("of(1, 7)", x.of(1, 7), 5);
        due("run(1)", x.run(1), 1);
        due("of(1, 7)", x.of(1, 7), 1);
        due("cause(0, 0)", x.cause(0, 0), 1);
        due("cause(0, 1)", x.cause(0, 1), 4);
    }

    private static void frail() {
        ActorTrees x = broom(SOME, SUM, FRAIL, WATCH);
        tellAll(x, 1, 5, 5, 7, 6, -1, 0);
        due("run(3)", x.run(3), 3);
        due("counted(1)", x.counted(1), 7);
        due("count(7)", x.count(7), 0);
        due("run(1)", x.run(1), 1);
        due("counted(1)", x.counted(1), 0);
        due("of(0, 12)", x.of(0, 12), 1);
        due("run(1)", x.run(1), 1);
        due("of(0, 12)", x.of(0, 12), 2);
        due("run(1)", x.run(1), 1);
        due("of(0, 12)", x.of(0, 12), 2);
        // THE DEATH makes a FRAIL one FAIL: 1 is one of the WATCHERS of 2, is RESTARTED with ALL, and turns FRAIL.
        x = broom(1905, SUM, SWITCH, SUM, FRAIL);
        tellAll(x, 1, 8, 2);
        due("run(2)", x.run(2), 2);
        due("watcher(2, 0)", x.watcher(2, 0), 1);
        tellAll(x, 3, -1);
        due("run(1)", x.run(1), 1);
        due("watcher(2, 0)", x.watcher(2, 0), 1);
        tellAll(x, 1, 5, 7);
        due("run(2)", x.run(2), 2);
        due("counted(1)", x.counted(1), 7);
        due("stop(2)", x.stop(2), 1);
        due("run(1)", x.run(1), 1);
        due("cause(0, 0)", x.cause(0, 0), 1);
        due("cause(0, 1)", x.cause(0, 1), 2);
        due("counted(1)", x.counted(1), 0);
    }

    private static void delay() {
        ActorTrees x = broom(SOME, DELAY, DELAY);
        tellAll(x, 0, 0, -5, 15, 1);
        due("run(4)", x.run(4), 4);
        due("count(3)", x.count(3), 2);
        due("timer(0, 1)", x.timer(0, 1), 2);
        due("timer(0, 2)", x.timer(0, 2), 100);
        due("timer(1, 1)", x.timer(1, 1), 8);
        due("timer(1, 2)", x.timer(1, 2), 114);
        due("run(1)", x.run(1), 1);
        due("count(6)", x.count(6), 2);
        due("count(5)", x.count(5), 4);
        mailboxIs(x, 0, 100);
        due("sender(0, 0, false)", x.sender(0, 0, false), -1);
        due("run(3)", x.run(3), 3);
        due("count(6)", x.count(6), 8);
        due("timer(0, 1)", x.timer(0, 1), 8 + 1 + 6);
        // An eleventh TIMER is not set; a MESSAGE goes ahead of all TIMERS.
        x = broom(SOME, DELAY, DELAY);
        tellAll(x, 0, 1, 1, 1, 1, 1, 1, 1, 1, 1, 1, 1);
        tellAll(x, 1, 9);
        due("run(12)", x.run(12), 12);
        due("count(3)", x.count(3), 10);
        due("of(1, 11)", x.of(1, 11), 1);
        due("of(0, 11)", x.of(0, 11), 9);
        due("count(6)", x.count(6), 0);
        due("count(4)", x.count(4), 0);
    }

    private static void fan() {
        ActorTrees x = broom(SOME, FAN, SUM, SUM, SUM);
        due("actor(1)", x.actor(1, SUM, SOME), 4);
        due("stop(2)", x.stop(2), 1);
        tellAll(x, 0, 4);
        due("run(1)", x.run(1), 1);
        mailboxIs(x, 1, 104);
        mailboxIs(x, 3, 104);
        due("of(4, 8)", x.of(4, 8), 0);
        due("sender(3, 0, false)", x.sender(3, 0, false), 0);
        due("count(4)", x.count(4), 0);
        due("count(2)", x.count(2), 2);
    }

    private static void watch() {
        ActorTrees x = broom(SOME, SUM, WATCH, SUM, SUM);
        tellAll(x, 1, 1, 99, -1, -99, 5, 6);
        // 1: itself; 99 modulo 4 is 3; 98 modulo 4 is 2; 0 is 0; 5 modulo 4: itself; 6 modulo 4 is 2, which it is already.
        due("run(1)", x.run(1), 1);
        due("count(2)", x.count(2), 5);
        due("run(2)", x.run(2), 2);
        due("watcher(3, 0)", x.watcher(3, 0), 1);
        due("watcher(2, 0)", x.watcher(2, 0), 1);
        due("watcher(0, 0)", x.watcher(0, 0), NOT);
        due("run(1)", x.run(1), 1);
        due("watcher(0, 0)", x.watcher(0, 0), 1);
        due("run(2)", x.run(2), 2);
        due("of(0, 10)", x.of(0, 10), 1);
        due("of(1, 10)", x.of(1, 10), 0);
        due("of(2, 10)", x.of(2, 10), 1);
        due("of(3, 10)", x.of(3, 10), 1);
        due("stop(3)", x.stop(3), 1);
        due("stop(2)", x.stop(2), 1);
        tellAll(x, 1, 3);
        due("run(2)", x.run(2), 2);
        due("counted(1)", x.counted(1), 103 + 102);
        mailboxIs(x, 1, 103);
        due("run(1)", x.run(1), 1);
        mailboxIs(x, 1, 303);
        due("of(3, 10)", x.of(3, 10), 0);
        due("run(9)", x.run(9), 1);
        due("counted(1)", x.counted(1), 103 + 102 + 103);
    }

    private static void quit() {
        ActorTrees x = broom(SOME, SUM, QUIT, WATCH);
        due("actor(1)", x.actor(1, SUM, SOME), 3);
        tellAll(x, 2, 1);
        due("run(1)", x.run(1), 1);
        tellAll(x, 1, 0, 1);
        tellAll(x, 3, 7);
        due("run(2)", x.run(2), 2);
        due("counted(3)", x.counted(3), 7);
        due("count(1)", x.count(1), 2);
        due("of(1, 5)", x.of(1, 5), 0);
        due("of(3, 5)", x.of(3, 5), 0);
        due("count(7)", x.count(7), 0);
        due("count(4)", x.count(4), 0);
        mailboxIs(x, 2, 301);
    }

    private static void restartOne() {
        ActorTrees x = broom(905, SUM, FRAIL, SWITCH, SUM);
        tellAll(x, 2, 0);
        tellAll(x, 3, 4);
        due("run(2)", x.run(2), 2);
        tellAll(x, 1, -1, 6);
        due("run(1)", x.run(1), 1);
        due("of(2, 7)", x.of(2, 7), 2);
        due("counted(3)", x.counted(3), 4);
        mailboxIs(x, 1, 106);
        due("count(1)", x.count(1), 4);
        due("count(7)", x.count(7), 1);
    }

    private static void restartAll() {
        ActorTrees x = broom(1905, SUM, SWITCH, FRAIL, SUM, DELAY);
        due("actor(1)", x.actor(1, SUM, SOME), 5);
        tellAll(x, 0, 3);
        tellAll(x, 1, 0);
        tellAll(x, 3, 4);
        tellAll(x, 4, 4);
        tellAll(x, 5, 4);
        due("run(5)", x.run(5), 5);
        tellAll(x, 2, -1);
        due("run(1)", x.run(1), 1);
        due("of(1, 7)", x.of(1, 7), 1);
        due("counted(3)", x.counted(3), 0);
        due("of(4, 11)", x.of(4, 11), 0);
        due("of(5, 5)", x.of(5, 5), 0);
        due("counted(5)", x.counted(5), 4);
        due("counted(0)", x.counted(0), 3);
        due("count(1)", x.count(1), 5);
        due("of(0, 12)", x.of(0, 12), 1);
    }

    private static void restartRest() {
        ActorTrees x = broom(2905, SUM, SUM, FRAIL, SUM, SUM);
        tellAll(x, 1, 1);
        tellAll(x, 3, 3);
        tellAll(x, 4, 4);
        due("run(3)", x.run(3), 3);
        due("stop(4)", x.stop(4), 1);
        tellAll(x, 2, -1);
        due("run(1)", x.run(1), 1);
        due("counted(1)", x.counted(1), 1);
        due("counted(3)", x.counted(3), 0);
        due("counted(4)", x.counted(4), 4);
        due("of(4, 5)", x.of(4, 5), 0);
    }

    private static void restartDetails() {
        // 1 FAILS by a fifth BEHAVIOUR more: its CHILDREN STOP, the greatest first; TIMERS and what it noted go; WATCHERS stay.
        ActorTrees x = broom(905, SUM, SWITCH, WATCH);
        due("actor(1)", x.actor(1, FRAIL, SOME), 3);
        due("actor(1)", x.actor(1, SUM, SOME), 4);
        tellAll(x, 2, 1, 3, 4);
        tellAll(x, 3, -1);
        due("run(4)", x.run(4), 4);
        due("of(1, 12)", x.of(1, 12), 1);
        tellAll(x, 1, 4, 4, 4, 6, 5);
        due("run(5)", x.run(5), 5);
        due("of(1, 11)", x.of(1, 11), 1);
        due("of(1, 7)", x.of(1, 7), 5);
        due("brings(1, 0)", x.brings(1, 0), 2);
        due("brings(1, 1)", x.brings(1, 1), 24);
        x = broom(905, SUM, SWITCH, WATCH);
        due("actor(1)", x.actor(1, FRAIL, SOME), 3);
        due("actor(1)", x.actor(1, SUM, SOME), 4);
        tellAll(x, 2, 1, 3, 4);
        tellAll(x, 3, -1);
        tellAll(x, 1, 4, 4, 4, 4, 77, 5);
        due("run(9)", x.run(9), 9);
        due("of(1, 12)", x.of(1, 12), 0);
        due("count(7)", x.count(7), 1);
        due("cause(0, 0)", x.cause(0, 0), 1);
        due("cause(0, 1)", x.cause(0, 1), 4);
        due("of(1, 7)", x.of(1, 7), 1);
        due("of(1, 10)", x.of(1, 10), 1);
        due("of(3, 5)", x.of(3, 5), 0);
        due("of(4, 5)", x.of(4, 5), 0);
        mailboxIs(x, 2, 304, 303);
        mailboxIs(x, 1, 105);
        // The last of 12 is a CHILD like any other.
        ActorTrees y = broom(905, SUM, SUM);
        for (int a = 2; a < 12; a++) {
            due("actor(1)", y.actor(1, SUM, SOME), a);
        }
        due("brings(1, 1)", y.brings(1, 1), 4095 - 3);
        due("sender(2, 0, false)", x.sender(2, 0, false), -1);
    }

    private static void restartStashes() {
        // 1 holds six; a sibling FAILS and ALL are RESTARTED: the STASH comes back ahead, as much as has room.
        ActorTrees x = broom(1905, SUM, HOLD, FRAIL);
        tellAll(x, 1, 1, 3, 5, 7, 9, 11);
        due("run(6)", x.run(6), 6);
        tellAll(x, 2, -1);
        due("tell(1, 2, 20)", x.tell(1, 2, 20), 1);
        tellAll(x, 1, 22, 24, 26, 28, 30, 32, 34, 36);
        due("run(1)", x.run(1), 1);
        mailboxIs(x, 1, 101, 103, 105, 120, 122, 124, 126, 128, 130, 132, 134, 136);
        due("sender(1, 0, false)", x.sender(1, 0, false), -1);
        due("sender(1, 3, false)", x.sender(1, 3, false), 2);
        due("sender(1, 4, false)", x.sender(1, 4, false), -1);
        due("of(1, 9)", x.of(1, 9), 0);
        due("count(4)", x.count(4), 3);
    }

    private static void budgets() {
        // BUDGETS of 0 pass every failure on, up to THE ROOT's CHILD below a root with a BUDGET of 1.
        ActorTrees x = new ActorTrees();
        x.actor(-1, SUM, 110);
        x.actor(0, SUM, 10);
        x.actor(1, SUM, 10);
        x.actor(2, FRAIL, 10);
        x.actor(0, SUM, 10);
        tellAll(x, 1, 5);
        tellAll(x, 3, -1);
        due("run(2)", x.run(2), 2);
        due("count(7)", x.count(7), 3);
        int[][] wanted = {{1, 9}, {2, 9}, {3, 1}};
        for (int i = 0; i < 3; i++) {
            due("cause(" + i + ", 0)", x.cause(i, 0), wanted[i][0]);
            due("cause(" + i + ", 1)", x.cause(i, 1), wanted[i][1]);
        }
        due("counted(1)", x.counted(1), 0);
        due("of(1, 5)", x.of(1, 5), 1);
        due("of(2, 5)", x.of(2, 5), 0);
        due("of(3, 5)", x.of(3, 5), 0);
        due("of(4, 5)", x.of(4, 5), 1);
        due("of(0, 12)", x.of(0, 12), 1);
        due("of(1, 12)", x.of(1, 12), 0);
        // A BUDGET of 9: nine are borne, the tenth is not.
        ActorTrees y = broom(901, SUM, FRAIL);
        for (int k = 1; k <= 10; k++) {
            due("count(1)", y.count(1), 2);
            due("of(0, 12)", y.of(0, 12), k - 1);
            tellAll(y, 1, -1);
            due("run(1)", y.run(1), 1);
        }
        due("count(1)", y.count(1), 0);
        due("of(0, 12)", y.of(0, 12), 0);
        // A second one below the root is too much for it.
        due("brings(4, 0)", x.brings(4, 0), 0);
        due("brings(4, 1)", x.brings(4, 1), 1 + 2 + 16);
        due("brings(4, 2)", x.brings(4, 2), 0);
    }

    private static void windows() {
        // BUDGET 1, WINDOW 3: a failure at 0 and one at 3 are too many, one at 0 and one at 4 are not.
        for (int n = 2; n <= 3; n++) {
            ActorTrees x = broom(103, SUM, FRAIL, DELAY);
            tellAll(x, 1, -1);
            tellAll(x, 2, n);
            due("run(3)", x.run(3), 3);
            due("count(6)", x.count(6), n + 1);
            tellAll(x, 1, -1);
            due("run(1)", x.run(1), 1);
            due("of(0, 5)", x.of(0, 5), n == 2 ? 0 : 1);
            due("count(7)", x.count(7), n == 2 ? 2 : 1);
        }
    }

    private static void rootFails() {
        ActorTrees x = broom(905, FRAIL, SUM);
        tellAll(x, 1, 5);
        tellAll(x, 0, 9, 8);
        due("run(9)", x.run(9), 3);
        due("ended()", x.ended(), 2);
        due("counted(0)", x.counted(0), 9);
        due("counted(1)", x.counted(1), 5);
        due("count(1)", x.count(1), 0);
        due("count(7)", x.count(7), 1);
        due("cause(0, 0)", x.cause(0, 0), 0);
        due("cause(0, 1)", x.cause(0, 1), 1);
        due("count(5)", x.count(5), 3);
    }

    private static void ended() {
        ActorTrees x = broom(SOME, SUM, QUIT);
        due("ended()", x.ended(), 0);
        due("run(1)", x.run(1), 0);
        due("ended()", x.ended(), 1);
        tellAll(x, 0, 1, 2);
        due("run(1)", x.run(1), 1);
        due("ended()", x.ended(), 0);
        due("run(0)", x.run(0), BAD);
        due("ended()", x.ended(), 0);
        due("run(1)", x.run(1), 1);
        due("ended()", x.ended(), 1);
        due("dry(1, 1)", x.dry(1, 1), 1);
        due("stop(0)", x.stop(0), 2);
        due("ended()", x.ended(), 1);
        due("run(7)", x.run(7), 0);
        due("ended()", x.ended(), 2);
        // A RUN whose last STEP brings THE ROOT down is DOWN, one whose last STEP is the last there is 1.
        x = broom(SOME, QUIT);
        tellAll(x, 0, 1);
        due("dry(1, 1)", x.dry(1, 1), 2);
        due("ended()", x.ended(), 0);
        due("run(1)", x.run(1), 1);
        due("ended()", x.ended(), 2);
        x = broom(SOME, DELAY);
        tellAll(x, 0, 1);
        due("run(1)", x.run(1), 1);
        due("ended()", x.ended(), 0);
        due("script", text(x, "s 2"), 1);
        due("ended()", x.ended(), 1);
        // LINES that are no RUN make no STEP and end none.
        due("script", text(x, "m 0 1;a 0 0 0 0 1"), 2);
        due("ended()", x.ended(), 1);
        due("count(5)", x.count(5), 2);
    }

    private static void log() {
        ActorTrees x = broom(SOME, SUM, WATCH, SUM);
        due("log(0)", x.log(0), NOT);
        tellAll(x, 0, -99, 99);
        tellAll(x, 1, 2);
        due("run(3)", x.run(3), 3);
        due("stop(2)", x.stop(2), 1);
        due("run(1)", x.run(1), 1);
        due("log(0)", x.log(0), 201);
        due("log(1)", x.log(1), 1302);
        due("log(2)", x.log(2), 399);
        due("log(3)", x.log(3), 1502);
        due("log(4)", x.log(4), NOT);
        due("log(-1)", x.log(-1), BAD);
        due("log(HIGH)", x.log(HIGH), NOT);
        for (int k = 0; k < 28; k++) {
            tellAll(x, 0, k);
            due("run(1)", x.run(1), 1);
        }
        due("count(8)", x.count(8), 30);
        due("log(0)", x.log(0), 399);
        due("log(1)", x.log(1), 1502);
        due("log(2)", x.log(2), 300);
        due("log(29)", x.log(29), 327);
        due("log(30)", x.log(30), NOT);
        // A TIMER that goes is nothing that is dealt with; what is only thought is not in THE LOG.
        x = broom(SOME, DELAY);
        tellAll(x, 0, 1);
        due("run(2)", x.run(2), 2);
        due("count(8)", x.count(8), 1);
        due("quiet()", x.quiet(), 1);
        due("count(8)", x.count(8), 1);
    }

    private static void cause() {
        ActorTrees x = broom(10, SUM, FRAIL);
        due("cause(0, 0)", x.cause(0, 0), NOT);
        due("brings(1, 2)", x.brings(1, 2), 0);
        due("cause(0, 0)", x.cause(0, 0), NOT);
        tellAll(x, 1, -1);
        due("run(1)", x.run(1), 1);
        due("cause(0, 0)", x.cause(0, 0), 0);
        due("cause(0, 1)", x.cause(0, 1), 9);
        due("cause(1, 0)", x.cause(1, 0), 1);
        due("cause(1, 1)", x.cause(1, 1), 1);
        due("cause(2, 0)", x.cause(2, 0), NOT);
        due("cause(-1, 0)", x.cause(-1, 0), BAD);
        due("cause(0, 2)", x.cause(0, 2), BAD);
        due("cause(0, -1)", x.cause(0, -1), BAD);
        due("cause(5, 2)", x.cause(5, 2), BAD);
        // Only the latest failure is told.
        x = broom(909, SUM, FRAIL, FRAIL);
        tellAll(x, 1, 1, 0);
        tellAll(x, 2, -1);
        due("run(2)", x.run(2), 2);
        due("cause(0, 0)", x.cause(0, 0), 2);
        due("run(1)", x.run(1), 1);
        due("cause(0, 0)", x.cause(0, 0), 1);
        due("cause(1, 0)", x.cause(1, 0), NOT);
        due("stop(0)", x.stop(0), 3);
        due("cause(0, 0)", x.cause(0, 0), 1);
    }

    // ---- in thought

    private static void dry() {
        ActorTrees x = new ActorTrees();
        due("dry(1, 0)", x.dry(1, 0), 0);
        due("dry(1, 1)", x.dry(1, 1), 1);
        due("dry(1, 2)", x.dry(1, 2), 0);
        due("dry(1, 10)", x.dry(1, 10), VOID);
        x = broom(SOME, FAN, SUM, QUIT, DELAY);
        tellAll(x, 0, 3, 4);
        due("stop(1)", x.stop(1), 1);
        due("tell(1, -1, 1)", x.tell(1, -1, 1), STATE);
        int[] wanted = {5, 0, 1 + 8, 1, 5, 0};
        // 0 by 3; 2 QUITS; 3 sets a TIMER for 4; 0 by 4; 3 sets a TIMER for 5.
        for (int what = 0; what < 6; what++) {
            due("dry(5, " + what + ")", x.dry(5, what), wanted[what]);
        }
        due("dry(6, 5)", x.dry(6, 5), 4);
        due("dry(6, 4)", x.dry(6, 4), 5);
        due("dry(200, 1)", x.dry(200, 1), 1);
        due("dry(200, 10)", x.dry(200, 10), 0);
        due("dry(200, 13)", x.dry(200, 13), 0);
        due("dry(200, 14)", x.dry(200, 14), VOID);
        due("dry(200, 6)", x.dry(200, 6), VOID);
        due("dry(200, 9)", x.dry(200, 9), VOID);
        due("dry(200, -1)", x.dry(200, -1), VOID);
        due("dry(200, HIGH)", x.dry(200, HIGH), VOID);
        due("dry(200, LOW)", x.dry(200, LOW), VOID);
        due("dry(0, 0)", x.dry(0, 0), VOID);
        due("dry(201, 0)", x.dry(201, 0), VOID);
        due("count(5)", x.count(5), 0);
        due("count(2)", x.count(2), 2);
        due("ended()", x.ended(), 0);
        due("log(0)", x.log(0), NOT);
        x = broom(SOME, SUM, QUIT);
        tellAll(x, 0, 7);
        due("dry(1, 10)", x.dry(1, 10), 7);
        due("counted(0)", x.counted(0), 0);
        // DEAD LETTERS then are all of them, those of before too.
        x = broom(SOME, PASS, ECHO);
        due("stop(1)", x.stop(1), 1);
        due("tell(1, 0, 9)", x.tell(1, 0, 9), STATE);
        due("actor(0)", x.actor(0, ECHO, SOME), 2);
        due("tell(2, 1, 5)", x.tell(2, 1, 5), 1);
        due("dry(1, 3)", x.dry(1, 3), 2);
        due("count(4)", x.count(4), 1);
        // One RESTARTED in thought does its OWN BEHAVIOUR on, in its PARENT's WINDOW.
        x = broom(SOME, SUM, FRAIL);
        tellAll(x, 1, 5, 3, 7, 6);
        due("dry(3, 11)", x.dry(3, 11), 7);
        due("dry(4, 11)", x.dry(4, 11), 0);
        x = broom(103, SUM, FRAIL, DELAY);
        tellAll(x, 1, -1);
        tellAll(x, 2, 2);
        due("run(3)", x.run(3), 3);
        due("brings(1, 1)", x.brings(1, 1), 7);
        due("would(1, -1, 1)", x.would(1, -1, 1), 0);
    }

    private static void first() {
        ActorTrees x = new ActorTrees();
        due("first()", x.first(), NOT);
        x = broom(SOME, FAN, SUM, FRAIL);
        tellAll(x, 0, 5, 3);
        // 0, 1, 2 (5), 0, 1, 2 (3 is below 5).
        due("first()", x.first(), 6);
        due("run(5)", x.run(5), 5);
        due("first()", x.first(), 1);
        due("run(1)", x.run(1), 1);
        due("first()", x.first(), NOT);
        due("cause(0, 0)", x.cause(0, 0), 2);
        // A failure by the last of 200 STEPS, and one by the 201st.
        x = broom(SOME, FAN, ECHO, HOLD);
        due("tell(0, 0, 62)", x.tell(0, 0, 62), 1);
        due("a failure by the 201st", x.first(), NOT);
        due("run(1)", x.run(1), 1);
        due("a failure by the 200th", x.first(), 200);
        due("dry(200, 0)", x.dry(200, 0), 200);
        due("run(199)", x.run(199), 199);
        due("count(7)", x.count(7), 0);
        due("run(1)", x.run(1), 1);
        due("count(7)", x.count(7), 1);
        // A failure in another thought is none of this one.
        x = broom(SOME, SUM, FRAIL);
        tellAll(x, 0, 1, 2);
        due("brings(1, 2)", x.brings(1, 2), 1);
        due("first()", x.first(), NOT);
        // The failure that is passed on and brings THE ROOT down is one, too.
        x = broom(5, SUM, FRAIL);
        tellAll(x, 1, -1);
        due("first()", x.first(), 1);
        due("count(1)", x.count(1), 2);
        due("count(7)", x.count(7), 0);
    }

    private static void quiet() {
        ActorTrees x = new ActorTrees();
        due("quiet()", x.quiet(), 0);
        x = broom(SOME, DELAY, SUM);
        due("quiet()", x.quiet(), 0);
        tellAll(x, 0, 2);
        due("quiet()", x.quiet(), 5);
        tellAll(x, 0, 99);
        // 99 alone is dealt with 100 times and sets 99 TIMERS: 199 STEPS.
        due("run(1)", x.run(1), 1);
        due("quiet()", x.quiet(), NOT);
        x = broom(SOME, DELAY, SUM);
        tellAll(x, 0, 99);
        due("quiet()", x.quiet(), 199);
        tellAll(x, 1, 1);
        due("quiet()", x.quiet(), 200);
        tellAll(x, 1, 1);
        due("quiet()", x.quiet(), NOT);
        due("count(5)", x.count(5), 0);
        due("stop(0)", x.stop(0), 2);
        due("quiet()", x.quiet(), 0);
    }

    private static void would() {
        ActorTrees x = broom(SOME, SUM, FRAIL, QUIT, SWITCH);
        tellAll(x, 1, 5);
        tellAll(x, 0, 4);
        due("run(2)", x.run(2), 2);
        due("would(1, 5, 0)", x.would(1, 5, 0), 5);
        due("would(1, 5, 1)", x.would(1, 5, 1), 1);
        due("would(1, 5, 2)", x.would(1, 5, 2), 0);
        due("would(1, 4, 0)", x.would(1, 4, 0), 0);
        due("would(1, 4, 1)", x.would(1, 4, 1), 1);
        due("would(1, 4, 2)", x.would(1, 4, 2), 1);
        due("would(0, -99, 0)", x.would(0, -99, 0), -95);
        due("would(0, 99, 0)", x.would(0, 99, 0), 103);
        due("would(2, 1, 1)", x.would(2, 1, 1), 0);
        due("would(2, 1, 2)", x.would(2, 1, 2), 0);
        due("would(3, 7, 2)", x.would(3, 7, 2), 0);
        due("would(0, 100, 0)", x.would(0, 100, 0), VOID);
        due("would(0, -100, 0)", x.would(0, -100, 0), VOID);
        due("would(0, 1, 3)", x.would(0, 1, 3), VOID);
        due("would(0, 1, -1)", x.would(0, 1, -1), VOID);
        due("would(4, 1, 0)", x.would(4, 1, 0), VOID);
        due("would(-1, 1, 0)", x.would(-1, 1, 0), VOID);
        due("stop(2)", x.stop(2), 1);
        due("would(2, 1, 0)", x.would(2, 1, 0), VOID);
        due("count(7)", x.count(7), 0);
        due("counted(1)", x.counted(1), 5);
        // It is ahead of a MAILBOX, even of a full one; the why is its own, also if its PARENT is brought down by it.
        x = broom(5, SUM, FRAIL);
        tellAll(x, 1, 9, 9, 9, 9, 9, 9, 9, 9, 9, 9, 9, 9);
        due("would(1, 7, 0)", x.would(1, 7, 0), 7);
        due("would(1, -7, 1)", x.would(1, -7, 1), 0);
        due("would(1, -7, 2)", x.would(1, -7, 2), 1);
        due("would(1, -7, 0)", x.would(1, -7, 0), 0);
        due("of(1, 8)", x.of(1, 8), 12);
        due("count(4)", x.count(4), 0);
    }

    private static void brings() {
        ActorTrees x = new ActorTrees();
        x.actor(-1, SUM, 2905);
        x.actor(0, SUM, 1010);
        x.actor(0, SUM, 1110);
        x.actor(2, SUM, 110);
        x.actor(2, SUM, 110);
        x.actor(3, SUM, 110);
        due("brings(3, 0)", x.brings(3, 0), 8 + 16);
        due("brings(3, 1)", x.brings(3, 1), 32);
        due("brings(3, 2)", x.brings(3, 2), 3);
        due("brings(1, 0)", x.brings(1, 0), 2 + 4);
        due("brings(1, 1)", x.brings(1, 1), 8 + 16 + 32);
        due("brings(2, 0)", x.brings(2, 0), 4);
        due("brings(0, 0)", x.brings(0, 0), 0);
        due("brings(0, 1)", x.brings(0, 1), 63);
        due("brings(0, 2)", x.brings(0, 2), 0);
        due("brings(5, 0)", x.brings(5, 0), 32);
        due("actor(1)", x.actor(1, SUM, 105), 6);
        due("brings(6, 0)", x.brings(6, 0), 2 + 4);
        due("brings(6, 1)", x.brings(6, 1), 8 + 16 + 32 + 64);
        due("brings(6, 2)", x.brings(6, 2), 1);
        due("brings(6, 3)", x.brings(6, 3), VOID);
        due("brings(6, -1)", x.brings(6, -1), VOID);
        due("brings(7, 0)", x.brings(7, 0), VOID);
        due("brings(-1, 0)", x.brings(-1, 0), VOID);
        due("stop(4)", x.stop(4), 1);
        due("brings(4, 0)", x.brings(4, 0), VOID);
        due("brings(3, 0)", x.brings(3, 0), 8);
        due("brings(0, 1)", x.brings(0, 1), 127 - 16);
        due("count(1)", x.count(1), 6);
        due("count(7)", x.count(7), 0);
        due("of(2, 12)", x.of(2, 12), 0);
    }

    private static void reach() {
        ActorTrees x = new ActorTrees();
        due("reach(0, 0)", x.reach(0, 0), BAD);
        int[] parents = {-1, 0, 0, 1, 1, 2, 3};
        for (int a = 0; a < parents.length; a++) {
            due("actor", x.actor(parents[a], SUM, SOME), a);
        }
        due("reach(6, 6)", x.reach(6, 6), 0);
        due("reach(6, 3)", x.reach(6, 3), 1);
        due("reach(1, 6)", x.reach(1, 6), 2);
        due("reach(6, 4)", x.reach(6, 4), 3);
        due("reach(6, 5)", x.reach(6, 5), 5);
        due("reach(5, 6)", x.reach(5, 6), 5);
        due("reach(0, 5)", x.reach(0, 5), 2);
        due("reach(7, 0)", x.reach(7, 0), BAD);
        due("reach(0, 7)", x.reach(0, 7), BAD);
        due("reach(-1, 0)", x.reach(-1, 0), BAD);
        due("reach(0, -1)", x.reach(0, -1), BAD);
        due("stop(3)", x.stop(3), 2);
        due("reach(3, 3)", x.reach(3, 3), NOT);
        due("reach(6, 4)", x.reach(6, 4), NOT);
        due("reach(4, 6)", x.reach(4, 6), NOT);
        due("reach(4, 5)", x.reach(4, 5), 4);
        x = chain(SOME, 0, 0, 0, 0, 0, 0, 0, 0, 0, 0, 0, 0);
        due("reach(0, 11)", x.reach(0, 11), 11);
        due("reach(11, 0)", x.reach(11, 0), 11);
    }

    // ---- texts, rows, images

    private static void feed() {
        ActorTrees x = new ActorTrees();
        due("feed(-1)", x.feed(-1), BAD);
        due("feed(256)", x.feed(256), BAD);
        due("feed(0)", x.feed(0), 1);
        due("feed(255)", x.feed(255), 2);
        for (int k = 3; k <= 120; k++) {
            due("feed(65)", x.feed(65), k);
        }
        due("feed(65)", x.feed(65), FULL);
        due("feed(256)", x.feed(256), BAD);
        due("count(9)", x.count(9), 120);
        due("script()", x.script(), -1000);
        due("feed(65)", x.feed(65), 1);
    }

    private static void script() {
        ActorTrees x = new ActorTrees();
        due("script", text(x, "a 99 7 0 2 10;a 0 0 1 1 5;m 0 5;s 1"), 4);
        due("count(9)", x.count(9), 0);
        due("count(0)", x.count(0), 2);
        due("of(0, 1)", x.of(0, 1), 7);
        due("of(1, 2)", x.of(1, 2), 1);
        due("of(1, 3)", x.of(1, 3), 1);
        due("of(1, 4)", x.of(1, 4), 5);
        mailboxIs(x, 1, 105);
        due("ended()", x.ended(), 0);
        due("script", text(x, "s 99"), 1);
        due("ended()", x.ended(), 1);
        due("counted(1)", x.counted(1), 5);
        due("script", text(x, "m 01 -9;m 1 -09;m 1 99"), 3);
        mailboxIs(x, 1, 91, 91, 199);
        due("sender(1, 0, false)", x.sender(1, 0, false), -1);
        // A DEAD LETTER is done, and counts.
        due("stop(1)", x.stop(1), 1);
        due("script", text(x, "m 1 5;m 1 6"), 2);
        due("count(4)", x.count(4), 2);
        for (int k = 0; k < 12; k++) {
            x.tell(0, -1, 1);
        }
        due("script", text(x, "m 0 5"), 1);
        due("count(4)", x.count(4), 3);
        // As many lines as THE TAPE has room for.
        x = new ActorTrees();
        StringBuilder most = new StringBuilder("s 1");
        for (int k = 1; k < 30; k++) {
            most.append(";s 1");
        }
        due("script", text(x, most.toString()), 30);
    }

    private static void faultsOfForm() {
        ActorTrees x = broom(SOME, SUM);
        due("script()", x.script(), -1000);
        String[] texts = {"x", "m", "m ", "m 0", "m 0 ", "m 0 -", "m  0 1", "m 0 123", "m 100 1", "m -1 1", "m 0 --1", "m 0 1 ", "m 0 1;",
            "m 0 1;;m 0 1", "a 0 0 0 0", "a 0 0 0 0 1 2", "a 0 -0 0 0 1", "s", "s 1 1", "s1", "M 0 1", ";", "a 0 0 0 0 -1", "m 0 1 1", "s 123",
            "m 0 1;s 1;a 0 0 0 0 1;q", "m 0 +1", "a 0 0 0 0 1a", "m 0 1s 1"};
        int[] places = {0, 1, 2, 3, 4, 5, 2, 6, 4, 2, 5, 5, 6,
            6, 9, 11, 4, 1, 3, 1, 0, 0, 10, 5, 4,
            22, 4, 11, 5};
        for (int k = 0; k < texts.length; k++) {
            due("script of " + texts[k], text(x, texts[k]), -1000 - places[k]);
            due("count(9)", x.count(9), 0);
        }
        due("feed(" + 0 + ")", x.feed(0), 1);
        due("script()", x.script(), -1000);
        due("count(0)", x.count(0), 1);
        due("count(2)", x.count(2), 0);
        due("count(5)", x.count(5), 0);
    }

    private static void linesThatCannotBe() {
        String[] lines = {"a 2 0 0 0 1", "a 1 0 0 0 1", "a 99 0 0 0 1", "a 0 10 0 0 1", "a 0 0 3 0 1", "a 0 0 0 10 1", "a 0 0 0 0 0",
            "a 0 0 0 0 51", "m 2 1", "m 99 1", "s 0", "s 00", "s -1"};
        for (String line : lines) {
            ActorTrees y = broom(SOME, SUM, SUM);
            due("stop(1)", y.stop(1), 1);
            due("script of " + line, text(y, line), -2000);
            due("script of " + line, text(y, "m 0 7;s 1;" + line + ";m 1 1"), -2002);
            due("count(9)", y.count(9), 0);
            due("count(0)", y.count(0), 2);
            due("count(2)", y.count(2), 0);
            due("count(5)", y.count(5), 0);
            due("count(8)", y.count(8), 0);
            due("counted(0)", y.counted(0), 0);
            due("ended()", y.ended(), 0);
        }
        ActorTrees x = broom(SOME, SUM, SUM);
        for (int k = 0; k < 10; k++) {
            due("actor(0)", x.actor(0, SUM, 105), k + 2);
        }
        due("script", text(x, "m 11 1;a 0 0 0 0 1"), -2001);
        due("of(11, 8)", x.of(11, 8), 0);
        // A form's FAULT is told first, however early a LINE that can't be.
        due("script", text(x, "m 99 1;m 0 1;?"), -1013);
    }

    private static void drawn() {
        ActorTrees x = new ActorTrees();
        due("drawn(1)", x.drawn(1), STATE);
        due("drawn(0)", x.drawn(0), BAD);
        due("drawn(41)", x.drawn(41), BAD);
        x = broom(SOME, SUM, SUM, SUM);
        due("drawn(0)", x.drawn(0), BAD);
        due("drawn(41)", x.drawn(41), BAD);
        due("drawn(-3)", x.drawn(-3), BAD);
        due("drawn(2)", x.drawn(2), 0);
        int z = 1103515245 + 12345;
        int x1 = 16838;
        due("the first x", z >>> 16 & 32767, x1);
        // 16838 modulo 3 is 2, 16838 / 12 is 1403, modulo 199 is 10, less 99 is -89.
        due("message(2, 0, false)", x.message(2, 0, false), 11);
        due("sender(2, 0, false)", x.sender(2, 0, false), -1);
        int z2 = z * 1103515245 + 12345;
        int x2 = z2 >>> 16 & 32767;
        due("the second x", x2, 5758);
        // 5758 modulo 3 is 1, 5758 / 12 is 479, modulo 199 is 81, less 99 is -18.
        due("message(1, 0, false)", x.message(1, 0, false), 82);
        due("seed(1)", x.seed(1), z2);
        // From the SEED 3: x is 17747, odd; modulo 3 it is 2; 1478 modulo 199 is 85, less 99 is -14.
        due("seed(3)", x.seed(3), 1);
        due("drawn(1)", x.drawn(1), 0);
        due("the third x", 3 * 1103515245 + 12345 >>> 16 & 32767, 17747);
        due("message(2, 1, false)", x.message(2, 1, false), 86);
        x = broom(SOME, SUM);
        due("drawn(40)", x.drawn(40), 28);
        due("count(2)", x.count(2), 12);
        due("drawn(3)", x.drawn(3), 3);
        due("count(4)", x.count(4), 31);
        due("stop(0)", x.stop(0), 1);
        due("drawn(3)", x.drawn(3), 3);
    }

    private static void seed() {
        ActorTrees x = broom(SOME, SUM, SUM, SUM);
        due("seed(LOW)", x.seed(LOW), 1);
        due("seed(-77)", x.seed(-77), LOW);
        due("drawn(1)", x.drawn(1), 0);
        int z = -77 * 1103515245 + 12345;
        due("seed(0)", x.seed(0), z);
        int drawn = z >>> 16 & 32767;
        due("message", x.message(drawn % 3, 0, false), 100 + drawn / 12 % 199 - 99);
        due("drawn(1)", x.drawn(1), 0);
        due("seed(0)", x.seed(0), 12345);
    }

    private static void order() {
        ActorTrees x = broom(SOME, FAN, SUM, WATCH, SUM);
        due("order(0, 0)", x.order(0, 0), -11);
        due("order(6, 0)", x.order(6, 0), BAD);
        due("order(-1, 0)", x.order(-1, 0), BAD);
        due("hold(0, 1)", x.hold(0, 1), 1);
        due("order(0, 0)", x.order(0, 0), -12);
        due("order(0, -1)", x.order(0, -1), -12);
        due("row(0, 7)", x.row(0, 7), 1);
        due("order(0, -1)", x.order(0, -1), -14);
        due("order(0, 4)", x.order(0, 4), -13);
        due("order(0, HIGH)", x.order(0, HIGH), -13);
        due("order(0, LOW)", x.order(0, LOW), -14);
        due("order(0, 1073741825)", x.order(0, 1073741825), -13);
        due("order(0, 0)", x.order(0, 0), NOT);
        due("order(0, 3)", x.order(0, 3), 0);
        tellAll(x, 0, 3);
        // 0 by 3, 1 by 3, 2 by 3 (it is a WATCHER of 3 then), 3 by 3.
        int[] row = {0, 3, 1, 3, 2, 3};
        for (int i = 0; i < row.length; i++) {
            due("put", x.put(0, i, row[i]), 0);
        }
        due("order(0, 3)", x.order(0, 3), NOT);
        due("order(0, 2)", x.order(0, 2), NOT);
        due("put", x.put(0, 3, 4), 3);
        due("order(0, 3)", x.order(0, 3), 1);
        due("order(0, 1)", x.order(0, 1), NOT);
        due("put", x.put(0, 3, 3), 4);
        due("put", x.put(0, 4, 3), 2);
        due("order(0, 3)", x.order(0, 3), 2);
        due("count(5)", x.count(5), 0);
        due("stop(2)", x.stop(2), 1);
        due("run(1)", x.run(1), 1);
        // Left are 1 by 3 and 3 by 3; behind these nothing is dealt with.
        int[] other = {1, 3, 3, 3, 0, 0};
        for (int i = 0; i < other.length; i++) {
            x.put(0, i, other[i]);
        }
        due("order(0, 2)", x.order(0, 2), NOT);
        due("order(0, 3)", x.order(0, 3), 2);
    }

    private static void orderSteps() {
        // A DEATH is told as 200 and x; TIMERS that go are STEPS, but no twos.
        ActorTrees x = broom(SOME, DELAY, WATCH, SUM);
        tellAll(x, 1, 2);
        due("run(1)", x.run(1), 1);
        due("stop(2)", x.stop(2), 1);
        tellAll(x, 0, 2);
        due("row(5, 10)", x.row(5, 10), 1);
        tellAll(x, 0, -5);
        int[] told = {1, 202, 0, 2, 0, -5, 0, 1, 0, 0};
        due("latest is 1, next is 0", x.dry(1, 4), 2);
        int[] wanted = {0, 2, 1, 202, 0, -5, 0, 1, 0, 0};
        for (int i = 0; i < wanted.length; i++) {
            x.put(5, i, wanted[i]);
        }
        due("order(5, 5)", x.order(5, 5), NOT);
        for (int i = 0; i < told.length; i++) {
            x.put(5, i, told[i]);
        }
        due("order(5, 5)", x.order(5, 5), 0);
        x = broom(SOME, DELAY);
        tellAll(x, 0, 99);
        due("row(1, 60)", x.row(1, 60), 1);
        for (int k = 0; k < 30; k++) {
            x.put(1, 2 * k + 1, 99 - k);
        }
        due("order(1, 30)", x.order(1, 30), NOT);
        due("put(1, 59, 71)", x.put(1, 59, 71), 70);
        due("order(1, 30)", x.order(1, 30), 29);
    }

    private static void image() {
        ActorTrees x = new ActorTrees();
        due("image()", x.image(), 0);
        due("actor", x.actor(-1, SUM, SOME), 0);
        due("back()", x.back(), 0);
        due("count(0)", x.count(0), 0);
        due("actor", x.actor(-1, SUM, SOME), 0);
        due("actor", x.actor(0, SUM, SOME), 1);
        due("image()", x.image(), 2);
        due("stop(1)", x.stop(1), 1);
        due("image()", x.image(), 2);
        due("back()", x.back(), 2);
        due("of(1, 5)", x.of(1, 5), 0);
    }

    private static void back() {
        ActorTrees x = new ActorTrees();
        due("back()", x.back(), STATE);
        x = broom(103, DELAY, SWITCH, FRAIL, HOLD, WATCH);
        tellAll(x, 0, 3, 4);
        tellAll(x, 1, 0, 7);
        tellAll(x, 2, 5, 3);
        tellAll(x, 3, 1, 3);
        tellAll(x, 4, 2, 1);
        due("run(9)", x.run(9), 9);
        due("tell(3, 4, 8)", x.tell(3, 4, 8), 1);
        due("seed(99)", x.seed(99), 1);
        due("hold(0, 4)", x.hold(0, 4), 1);
        due("row(2, 3)", x.row(2, 3), 1);
        String before = seen(x);
        due("image()", x.image(), 5);
        due("actor", x.actor(4, SUM, 909), 5);
        due("hold(1, 5)", x.hold(1, 5), 1);
        due("hold(0, 3)", x.hold(0, 3), 1);
        due("put(2, 1, 8)", x.put(2, 1, 8), 0);
        due("feed(97)", x.feed(97), 1);
        due("drawn(40)", x.drawn(40) >= 0 ? 1 : 0, 1);
        due("run(150)", x.run(150) > 0 ? 1 : 0, 1);
        due("back()", x.back(), 5);
        due("tells(1, 0)", x.tells(1, 0), VOID);
        due("tells(0, 0)", x.tells(0, 0), 3);
        due("put(2, 1, 0)", x.put(2, 1, 0), 8);
        due("script()", x.script(), -1001);
        due("all that is seen", seen(x).equals(before) ? 1 : 0, 1);
        due("seed(1)", x.seed(1), 99);
        due("run(3)", x.run(3), 3);
        due("back()", x.back(), 5);
        due("count(5)", x.count(5), 9);
        due("seed(1)", x.seed(1), 99);
        due("hold(0, 4)", x.hold(0, 4), 1);
        x = broom(SOME, SUM);
        due("image()", x.image(), 1);
        due("actor", x.actor(0, SUM, SOME), 1);
        for (int h = 0; h < 6; h++) {
            due("hold", x.hold(h, 1), 1);
        }
        due("back()", x.back(), 1);
        for (int h = 0; h < 6; h++) {
            due("tells", x.tells(h, 0), VOID);
        }
        backOfTimers();
        anewBehindBack();
    }

    private static void backOfTimers() {
        ActorTrees x = broom(SOME, SUM, DELAY, DELAY);
        tellAll(x, 1, 5);
        tellAll(x, 2, 3);
        due("run(2)", x.run(2), 2);
        due("image()", x.image(), 3);
        due("run(200)", x.run(200) > 9 ? 1 : 0, 1);
        due("count(6)", x.count(6) > 9 ? 1 : 0, 1);
        tellAll(x, 1, 1, 1, 1);
        due("run(3)", x.run(3), 3);
        due("back()", x.back(), 3);
        int[][] wanted = {{2, 4, 102}, {1, 6, 104}};
        for (int i = 0; i < 2; i++) {
            for (int what = 0; what < 3; what++) {
                due("timer(" + i + ", " + what + ")", x.timer(i, what), wanted[i][what]);
            }
        }
        due("count(3)", x.count(3), 2);
        due("count(6)", x.count(6), 0);
        due("dry(1, 5)", x.dry(1, 5), 4);
        due("run(1)", x.run(1), 1);
        due("dry(1, 5)", x.dry(1, 5), 4);
        due("dry(1, 4)", x.dry(1, 4), 3);
    }

    /** One that comes again behind back() is as if none had been there. */
    private static void anewBehindBack() {
        ActorTrees x = broom(SOME, SUM, SUM);
        due("image()", x.image(), 2);
        due("actor", x.actor(0, SWITCH, SOME), 2);
        due("actor", x.actor(0, WATCH, SOME), 3);
        tellAll(x, 3, 2);
        tellAll(x, 2, 4, 0, 3, 1, 5, 7);
        due("run(2)", x.run(2), 2);
        due("run(1)", x.run(1), 1);
        tellAll(x, 2, 9);
        due("back()", x.back(), 2);
        due("actor", x.actor(0, FRAIL, SOME), 2);
        int[] wanted = {0, FRAIL, 0, 9, 9, 1, FRAIL, 1, 0, 0, 0, 0, 0, 0};
        for (int what = 0; what <= 13; what++) {
            due("of(2, " + what + ")", x.of(2, what), wanted[what]);
        }
        due("counted(2)", x.counted(2), 0);
        tellAll(x, 2, 9);
        due("actor", x.actor(2, HOLD, SOME), 3);
        tellAll(x, 3, 1);
        due("run(2)", x.run(2), 2);
        due("counted(2)", x.counted(2), 9);
        due("of(3, 9)", x.of(3, 9), 1);
        due("of(0, 12)", x.of(0, 12), 0);
        due("back()", x.back(), 2);
        due("actor", x.actor(0, SUM, SOME), 2);
        due("actor", x.actor(0, SUM, SOME), 3);
        due("counted(2)", x.counted(2), 0);
        due("of(3, 9)", x.of(3, 9), 0);
    }

    private static void hold29() {
        ActorTrees x = broom(SOME, SUM, SUM);
        due("hold(0, 2)", x.hold(0, 2), BAD);
        due("hold(0, -2)", x.hold(0, -2), BAD);
        due("hold(6, 0)", x.hold(6, 0), BAD);
        due("hold(-1, 0)", x.hold(-1, 0), BAD);
        due("hold(6, -1)", x.hold(6, -1), BAD);
        due("hold(0, 1)", x.hold(0, 1), 1);
        due("tells(0, 0)", x.tells(0, 0), 1);
        due("hold(0, 2)", x.hold(0, 2), BAD);
        due("tells(0, 0)", x.tells(0, 0), 1);
        due("hold(5, 0)", x.hold(5, 0), 1);
        due("tells(5, 0)", x.tells(5, 0), 0);
        due("hold(0, -1)", x.hold(0, -1), 1);
        due("tells(0, 0)", x.tells(0, 0), VOID);
        due("hold(0, -1)", x.hold(0, -1), 1);
        due("stop(1)", x.stop(1), 1);
        due("hold(0, 1)", x.hold(0, 1), 1);
        due("tells(0, 0)", x.tells(0, 0), 1);
        due("row(0, 1)", x.row(0, 1), 1);
        due("hold(0, 0)", x.hold(0, 0), 1);
        due("put(0, 0, 1)", x.put(0, 0, 1), VOID);
    }

    private static void row() {
        ActorTrees x = new ActorTrees();
        due("row(0, 61)", x.row(0, 61), BAD);
        due("row(6, 5)", x.row(6, 5), BAD);
        due("row(-1, 5)", x.row(-1, 5), BAD);
        due("row(6, -5)", x.row(6, -5), BAD);
        due("row(0, -1)", x.row(0, -1), -14);
        due("row(0, LOW)", x.row(0, LOW), -14);
        due("row(0, HIGH)", x.row(0, HIGH), BAD);
        due("tells(0, 0)", x.tells(0, 0), VOID);
        due("row(0, 0)", x.row(0, 0), 1);
        due("put(0, 0, 1)", x.put(0, 0, 1), VOID);
        due("row(5, 60)", x.row(5, 60), 1);
        due("put(5, 59, 4)", x.put(5, 59, 4), 0);
        due("put(5, 60, 4)", x.put(5, 60, 4), VOID);
        due("row(5, 61)", x.row(5, 61), BAD);
        due("put(5, 59, 5)", x.put(5, 59, 5), 4);
        due("put(5, 0, 6)", x.put(5, 0, 6), 0);
        due("row(5, 60)", x.row(5, 60), 1);
        due("put(5, 59, 5)", x.put(5, 59, 5), 0);
        due("put(5, 0, 5)", x.put(5, 0, 5), 0);
    }

    private static void put() {
        ActorTrees x = broom(SOME, SUM);
        due("put(0, 0, 1)", x.put(0, 0, 1), VOID);
        due("put(6, 0, 1)", x.put(6, 0, 1), VOID);
        due("put(-1, 0, 1)", x.put(-1, 0, 1), VOID);
        due("hold(0, 0)", x.hold(0, 0), 1);
        due("put(0, 0, 1)", x.put(0, 0, 1), VOID);
        due("row(0, 3)", x.row(0, 3), 1);
        due("row(1, 3)", x.row(1, 3), 1);
        due("put(0, 2, LOW)", x.put(0, 2, LOW), 0);
        due("put(0, 2, HIGH)", x.put(0, 2, HIGH), LOW);
        due("put(0, 2, 0)", x.put(0, 2, 0), HIGH);
        due("put(0, 3, 1)", x.put(0, 3, 1), VOID);
        due("put(0, -1, 1)", x.put(0, -1, 1), VOID);
        due("put(1, 2, 1)", x.put(1, 2, 1), 0);
    }

    private static void tells() {
        ActorTrees x = broom(SOME, SUM, HOLD, SUM);
        due("actor(1)", x.actor(1, SUM, SOME), 3);
        for (int h = 0; h < 4; h++) {
            due("hold", x.hold(h, h), 1);
        }
        tellAll(x, 1, 1, 3);
        tellAll(x, 2, 8, 9);
        due("run(3)", x.run(3), 3);
        int other = -2000000012;
        int[][] wanted = {{0, other, 2, 0}, {1, other, 1, 2}, {2, 8, other, other}, {3, 0, other, 0}};
        for (int h = 0; h < 4; h++) {
            for (int as = 0; as < 4; as++) {
                due("tells(" + h + ", " + as + ")", x.tells(h, as), wanted[h][as]);
            }
        }
        due("stop(1)", x.stop(1), 2);
        int[][] then = {{0, other, 1, 0}, {1, other, 0, other}, {2, 8, other, other}, {3, 0, other, other}};
        for (int h = 0; h < 4; h++) {
            for (int as = 0; as < 4; as++) {
                due("tells(" + h + ", " + as + ") then", x.tells(h, as), then[h][as]);
            }
        }
        due("tells(4, 0)", x.tells(4, 0), VOID);
        due("tells(0, 4)", x.tells(0, 4), VOID);
        due("tells(0, -1)", x.tells(0, -1), VOID);
        due("tells(6, 0)", x.tells(6, 0), VOID);
        due("tells(-1, 0)", x.tells(-1, 0), VOID);
        due("row(4, 2)", x.row(4, 2), 1);
        due("tells(4, 0)", x.tells(4, 0), other);
        due("tells(4, 4)", x.tells(4, 4), VOID);
    }

    private static void count() {
        ActorTrees x = broom(905, DELAY, FRAIL, SUM);
        tellAll(x, 0, 2, 1);
        tellAll(x, 1, -1);
        due("run(3)", x.run(3), 3);
        tellAll(x, 2, 1, 1, 1);
        due("stop(1)", x.stop(1), 1);
        due("tell(1, -1, 4)", x.tell(1, -1, 4), STATE);
        due("feed(4)", x.feed(4), 1);
        due("feed(4)", x.feed(4), 2);
        int[] wanted = {3, 2, 3, 2, 1, 3, 0, 1, 3, 2};
        for (int what = 0; what < 10; what++) {
            due("count(" + what + ")", x.count(what), wanted[what]);
        }
        due("count(10)", x.count(10), BAD);
        due("count(-1)", x.count(-1), BAD);
        due("run(4)", x.run(4), 4);
        due("count(6)", x.count(6), 2);
    }
}
