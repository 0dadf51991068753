/** Promises 26 and 27: runScript, simulate. */
public final class ScriptTest {
    public static void main(String[] args) {
        arguments();
        actions();
        steps();
        questions();
        order();
        copies();
        simulate();
        Check.end();
    }

    private static void fails(String why, StringShed x, int n, long script, int due) {
        Check.is(why + ": runScript " + n + " " + script, due, () -> x.runScript(n, script));
    }

    private static void succeeds(String why, StringShed x, int n, long script) {
        fails(why, x, n, script, -9);
    }

    private static void arguments() {
        StringShed x = new StringShed();
        int[] wrong = {0, 4, -1, Integer.MAX_VALUE};
        for (int n : wrong) {
            Check.refused("n " + n, IllegalArgumentException.class, () -> x.runScript(n, 10001));
        }
        Check.refused("negative", IllegalArgumentException.class, () -> x.runScript(1, -1));
        Check.refused("six digits", IllegalArgumentException.class, () -> x.runScript(1, 100000));
        Check.refused("eleven", IllegalArgumentException.class, () -> x.runScript(2, 10000000000L));
        Check.refused("sixteen", IllegalArgumentException.class, () -> x.runScript(3, 1000000000000000L));
        Check.refused("most", IllegalArgumentException.class, () -> x.runScript(3, Long.MAX_VALUE));
        Check.refused("least", IllegalArgumentException.class, () -> x.runScript(3, Long.MIN_VALUE));
        fails("99999", x, 1, 99999, 0);
        fails("ten digits", x, 2, 9999999999L, 0);
        fails("fifteen digits", x, 3, 999999999999999L, 0);
        fails("zeros before it", x, 2, 10001, 0);
        fails("nought", x, 1, 0, 0);
        fails("group 0", x, 1, 1, 0);
    }

    private static void actions() {
        StringShed x = Check.shed("Sn1n2n3th000t0001");
        succeeds("make", x, 1, 10009);
        fails("weight 0", x, 1, 10000, 0);
        fails("weight 10", x, 1, 10010, 0);
        fails("weight 101", x, 1, 10101, 0);
        fails("weight 1001", x, 1, 11001, 0);
        succeeds("tie", x, 1, 20102);
        succeeds("tie at hook 3", x, 2, 2930270201L);
        succeeds("tie at hook 0", x, 1, 29001);
        fails("hook 4", x, 1, 29401, 0);
        fails("hook 0 has it", x, 1, 29000, 0);
        fails("thing 89", x, 1, 28901, 0);
        fails("thing 24", x, 1, 22401, 0);
        fails("part 3", x, 1, 20103, 0);
        fails("part 24", x, 1, 20124, 0);
        fails("the same", x, 1, 20202, 0);
        fails("there is one", x, 1, 20001, 0);
        succeeds("a sound one", x, 2, 2000270201L);
        succeeds("cut", x, 2, 3000170100L);
        succeeds("cut at a hook", x, 2, 3900070000L);
        fails("cut none", x, 1, 30002, 0);
        fails("cut at no hook", x, 1, 39400, 0);
        succeeds("pin", x, 2, 4000270201L);
        succeeds("unpin", x, 3, 400024010270200L);
        fails("pin 2", x, 1, 40202, 0);
        fails("pin with a digit", x, 1, 41002, 0);
        fails("pin none", x, 1, 40003, 0);
        fails("unpin none", x, 1, 40199, 0);
        succeeds("unpin what is not pinned", x, 1, 40102);
    }

    private static void steps() {
        StringShed x = Check.shed("Sn1n2n3th000t0001");
        succeeds("begin", x, 1, 50000);
        fails("begin with a digit", x, 1, 50001, 0);
        fails("begin with a digit", x, 1, 51000, 0);
        fails("begin twice", x, 2, 5000050000L, 1);
        fails("no sweep", x, 1, 60001, 0);
        fails("no sweep, no step", x, 1, 60000, 0);
        fails("no step is no command", x, 2, 5000060000L, 1);
        fails("no step, third", x, 3, 500006000160000L, 2);
        succeeds("one step", x, 2, 5000060001L);
        succeeds("many steps", x, 2, 5000060099L);
        fails("steps with a digit", x, 2, 5000060101L, 1);
        fails("steps with a digit", x, 2, 5000061001L, 1);
        succeeds("two leave the sweep open", x, 3, 500006000260001L);
        succeeds("three end it and sweep part 2", x, 3, 500006000350000L);
        fails("it is gone", x, 3, 500006000340002L, 2);
        succeeds("it is there yet", x, 3, 500006000240002L);
        fails("behind the end", x, 3, 500006000360001L, 2);
        x.begin();
        fails("no step is no command, first", x, 1, 60000, 0);
        fails("no step before one", x, 2, 6000060001L, 0);
        fails("no step after one", x, 2, 6000160000L, 1);
        fails("no step three times", x, 3, 600006000060000L, 0);
        succeeds("ten steps", x, 1, 60010);
        succeeds("one step is no more", x, 3, 600016000160001L);
        fails("the fourth is too much", x, 3, 600026000160001L, 2);
        x.step();
        x.step();
        fails("one ends it", x, 2, 6000140002L, 1);
        fails("no step, where one would end it", x, 2, 6000040002L, 0);
        Check.is("the sweep goes on", 1, () -> x.about(8));
    }

    private static void questions() {
        StringShed x = Check.shed("Sn9n9n9n9n9n9n9n9n9n9n9n9n9n2th000t0001t0102p03");
        succeeds("held", x, 1, 70201);
        fails("held", x, 1, 70200, 0);
        succeeds("not held", x, 1, 70400);
        fails("not held", x, 1, 70401, 0);
        fails("h 2", x, 1, 70202, 0);
        fails("h 2, not held", x, 1, 70402, 0);
        fails("a digit", x, 1, 70211, 0);
        fails("no part", x, 1, 71401, 0);
        fails("no part, not held", x, 1, 71400, 0);
        fails("part 99", x, 1, 79900, 0);
        succeeds("depth 3", x, 1, 80203);
        fails("depth 2", x, 1, 80202, 0);
        succeeds("depth 99", x, 1, 80299);
        succeeds("depth 0", x, 1, 80300);
        fails("not held", x, 1, 80499, 0);
        fails("no part", x, 1, 82499, 0);
        fails("part 14", x, 1, 81499, 0);
        succeeds("weight 36", x, 1, 90036);
        fails("weight 35", x, 1, 90035, 0);
        succeeds("weight 999", x, 1, 90999);
        fails("weight with a digit", x, 1, 91000, 0);
        for (int p = 4; p < 14; p++) {
            x.pin(p, true);
        }
        succeeds("weight 119", x, 1, 90119);
        fails("weight 118", x, 1, 90118, 0);
        StringShed empty = new StringShed();
        succeeds("weight 0", empty, 1, 90000);
    }

    private static void order() {
        StringShed x = Check.shed("Sn1");
        fails("the first", x, 3, 700017000170001L, 0);
        fails("the second", x, 3, 700007000170001L, 1);
        fails("the third", x, 3, 700007000070001L, 2);
        succeeds("all", x, 3, 700007000070000L);
        succeeds("each goes on from the last", x, 3, 290004000070001L);
        succeeds("a new part", x, 3, 100092900170101L);
        fails("the number says the order", x, 2, 7000129000L, 0);
        succeeds("the number says the order", x, 2, 2900070001L);
    }

    private static void copies() {
        StringShed x = Check.shed("Sn1n2n3th000t0001");
        x.begin();
        x.runScript(3, 100093000160009L);
        x.simulate(7, 200);
        Check.is("parts", 3, () -> x.about(1));
        Check.is("strings", 2, () -> x.about(3));
        Check.is("sweeps", 0, () -> x.about(9));
        Check.is("sweep", 1, () -> x.about(8));
        Check.is("colour", 1, () -> x.part(0, 6));
        Check.is("undo begin alone", 0, x::undo);
    }

    private static void simulate() {
        StringShed x = Check.shed("Sn1n2n3n4n5n6n7n8n9n1n2n3n4n5n6n7n8n9n1n2n3n4n5n6");
        Check.refused("no turns", IllegalArgumentException.class, () -> x.simulate(1, 0));
        Check.refused("201 turns", IllegalArgumentException.class, () -> x.simulate(1, 201));
        Check.refused("-1 turns", IllegalArgumentException.class, () -> x.simulate(1, -1));
        long[] seeds = {0, 1, -1, 42, Long.MAX_VALUE, Long.MIN_VALUE, 123456789012345L};
        for (long seed : seeds) {
            for (int m = 1; m <= 200; m++) {
                int turns = m;
                Check.is("simulate " + seed + " " + m, byHand(x, seed, m), () -> x.simulate(seed, turns));
            }
        }
    }

    /** The turns as calls on another object, which the text makes like the first one. */
    private static long byHand(StringShed like, long seed, int m) {
        StringShed x = new StringShed();
        for (int p = 0; p < like.about(1); p++) {
            x.make(like.part(p, 0));
        }
        long state = seed;
        for (int turn = 0; turn < m; turn++) {
            state = state * 6364136223846793005L + 1442695040888963407L;
            int r = (int) (state >>> 33);
            turn(x, r % 8, r / 512 % 28 - 4, r / 16 % 24, r / 16384 % 2 == 1);
        }
        return 1000L * x.about(2) + x.about(7);
    }

    private static void turn(StringShed x, int kind, int above, int p, boolean is) {
        try {
            if (kind <= 1) {
                x.tie(above, p, true);
            } else if (kind == 2) {
                x.cut(above, p);
            } else if (kind == 3) {
                x.fray(above, p);
            } else if (kind == 4) {
                x.mend(above, p);
            } else if (kind == 5) {
                x.pin(p, is);
            } else if (x.about(8) == 1) {
                x.step();
            } else {
                x.begin();
            }
        } catch (IndexOutOfBoundsException | IllegalArgumentException | IllegalStateException leftOut) {
            // What would throw is left out.
        }
    }
}
