/** What the tests told by calls share: what is due, objects made by several calls, all that can be seen of one. */
class Calls {
    static final int BAD = -1, NOT = -2, FULL = -3, STATE = -5, VOID = -2000000000;
    static final int NOTHING = -11, OTHER = -12, NO_PLACE = -13, SIZE = -14, VOID_OTHER = -2000000012;
    static final int LOW = Integer.MIN_VALUE, HIGH = Integer.MAX_VALUE;
    static final int SUM = 0, PASS = 1, ECHO = 2, HOLD = 3, SWITCH = 4;
    static final int FRAIL = 5, DELAY = 6, FAN = 7, WATCH = 8, QUIT = 9;
    static final int SOME = 909; // a sbw: ONE, a BUDGET of 9, a WINDOW of 9

    static Check check = new Check("Calls");
    static String where = "";

    static void due(String call, int got, int want) {
        check.due(where + ": " + call, got, want);
    }

    /** A chain of actors: the root does the first, its child the second, and so on. */
    static ActorTrees chain(int sbw, int... owns) {
        ActorTrees x = new ActorTrees();
        for (int i = 0; i < owns.length; i++) {
            due("actor of a chain", x.actor(i - 1, owns[i], sbw), i);
        }
        return x;
    }

    /** A root that does the first, and children of it that do the others. */
    static ActorTrees broom(int sbw, int... owns) {
        ActorTrees x = new ActorTrees();
        for (int i = 0; i < owns.length; i++) {
            due("actor of a broom", x.actor(i == 0 ? -1 : 0, owns[i], sbw), i);
        }
        return x;
    }

    /** A root and eleven children of it, all of which do the same. */
    static ActorTrees twelve(int own) {
        return broom(SOME, own, own, own, own, own, own, own, own, own, own, own, own);
    }

    static void tellAll(ActorTrees x, int actor, int... numbers) {
        for (int n : numbers) {
            int had = x.of(actor, 8);
            due("tell(" + actor + ", -1, " + n + ")", x.tell(actor, -1, n), had + 1);
        }
    }

    /** Tells an actor the numbers and has them, and what else there is, dealt with: just as many STEPS. */
    static void dealt(ActorTrees x, int actor, int... numbers) {
        tellAll(x, actor, numbers);
        due("run(" + numbers.length + ")", x.run(numbers.length), numbers.length);
    }

    static int text(ActorTrees x, String text) {
        for (int i = 0; i < text.length(); i++) {
            due("feed", x.feed(text.charAt(i)), i + 1);
        }
        return x.script();
    }

    static void mailboxIs(ActorTrees x, int actor, int... messages) {
        rowIs(x, actor, false, messages);
    }

    static void stashIs(ActorTrees x, int actor, int... messages) {
        rowIs(x, actor, true, messages);
    }

    private static void rowIs(ActorTrees x, int actor, boolean stash, int... messages) {
        int what = stash ? 9 : 8;
        due("of(" + actor + ", " + what + ")", x.of(actor, what), messages.length);
        for (int i = 0; i <= messages.length; i++) {
            int want = i < messages.length ? messages[i] : NOT;
            due("message(" + actor + ", " + i + ", " + stash + ")", x.message(actor, i, stash), want);
        }
    }

    static void causesAre(ActorTrees x, int... twos) {
        due("count(7)", x.count(7), twos.length / 2);
        for (int k = 0; k < twos.length; k++) {
            due("cause(" + k / 2 + ", " + k % 2 + ")", x.cause(k / 2, k % 2), twos[k]);
        }
        due("cause(" + twos.length / 2 + ", 0)", x.cause(twos.length / 2, 0), NOT);
    }

    static void rowOf(ActorTrees x, int handle, int... items) {
        due("row(" + handle + ", " + items.length + ")", x.row(handle, items.length), 1);
        for (int i = 0; i < items.length; i++) {
            due("put(" + handle + ", " + i + ", " + items[i] + ")", x.put(handle, i, items[i]), 0);
        }
    }

    /** All that can be seen of one, by some 200 calls for a handful of actors; it changes nothing. */
    static String seen(ActorTrees x) {
        StringBuilder all = new StringBuilder("ended ").append(x.ended());
        for (int what = 0; what <= 9; what++) {
            all.append(" count").append(what).append(' ').append(x.count(what));
        }
        for (int a = 0; a < x.count(0); a++) {
            all.append("; actor ").append(a).append(" count ").append(x.counted(a));
            for (int what = 0; what <= 13; what++) {
                all.append(' ').append(x.of(a, what));
            }
            seenRows(x, a, all);
        }
        for (int i = 0; i < x.count(8); i++) {
            all.append(" log ").append(x.log(i));
        }
        for (int i = 0; i < x.count(7); i++) {
            all.append(" cause ").append(x.cause(i, 0)).append(' ').append(x.cause(i, 1));
        }
        for (int i = 0; i < x.count(3); i++) {
            all.append(" timer ").append(x.timer(i, 0)).append(' ').append(x.timer(i, 1)).append(' ').append(x.timer(i, 2));
        }
        int seed = x.seed(0);
        x.seed(seed);
        return all.append(" seed ").append(seed).append(" quiet ").append(x.quiet()).toString();
    }

    private static void seenRows(ActorTrees x, int a, StringBuilder all) {
        for (int i = 0; i < x.of(a, 8); i++) {
            all.append(" mail ").append(x.message(a, i, false)).append(" of ").append(x.sender(a, i, false));
        }
        for (int i = 0; i < x.of(a, 9); i++) {
            all.append(" held ").append(x.message(a, i, true)).append(" of ").append(x.sender(a, i, true));
        }
        for (int i = 1; i < x.of(a, 7); i++) {
            all.append(" does ").append(x.stack(a, i));
        }
        for (int i = 0; i < x.of(a, 10); i++) {
            all.append(" watcher ").append(x.watcher(a, i));
        }
    }

    static void sameSeen(String call, ActorTrees x, ActorTrees y) {
        String one = seen(x);
        String other = seen(y);
        due(call + (one.equals(other) ? "" : ": " + one + " / " + other), one.equals(other) ? 1 : 0, 1);
    }
}
