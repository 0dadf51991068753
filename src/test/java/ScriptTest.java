/** Promises 26 and 27: runScript, simulate. */
public final class ScriptTest {
    public static void main(String[] args) {
        arguments();
        actions();
        steps();
        questions();
        order();
        copies();
        digitsOfEachNumber();
        zeros();
        thingsAndParts();
        stepsOfEachNumber();
        depthAndWeight();
        failsAsTheMethod();
        eachGroup();
        simulate();
        simulateOnAState();
        turnsOfEachNumber();
        Check.end();
    }

    private static void fails(String why, StringShed x, int n, long script, int due) {
        Check.is(why + ": runScript " + n + " " + script, due, () -> x.runScript(n, script));
    }

    private static void succeeds(String why, StringShed x, int n, long script) {
        fails(why, x, n, script, -9);
    }

    /** On an object of its own, where one object would get more calls than the document promises. */
    private static void fails(String why, Twins.Maker maker, int n, long script, int due) {
        fails(why, maker.make(), n, script, due);
    }

    private static void arguments() {
        StringShed x = new StringShed();
        int[] wrong = {0, 4, -1, Integer.MAX_VALUE};
        for (int n : wrong) {
            Check.refused("n " + n, IllegalArgumentException.class, () -> x.runScript(n, 10001));
        }
        Check.refused("negative", IllegalArgumentException.class, () -> x.runScript(1, -1));
        Check.refused("six digits", IllegalArgumentException.class, () -> x.runScript(1, 100000));
        Check.refused("eleven", IllegalArgumentException.class, () -> x.runScript(2, 10000000000L));
        Check.refused("sixteen", IllegalArgumentException.class, () -> x.runScript(3, 1000000000000000L));
        Check.refused("most", IllegalArgumentException.class, () -> x.runScript(3, Long.MAX_VALUE));
        Check.refused("least", IllegalArgumentException.class, () -> x.runScript(3, Long.MIN_VALUE));
        fails("99999", x, 1, 99999, 0);
        fails("ten digits", x, 2, 9999999999L, 0);
        fails("fifteen digits", x, 3, 999999999999999L, 0);
        fails("zeros before it", x, 2, 10001, 0);
        fails("nought", x, 1, 0, 0);
        fails("group 0", x, 1, 1, 0);
    }

    private static void actions() {
        StringShed x = Check.shed("Sn1n2n3th000t0001");
        succeeds("make", x, 1, 10009);
        fails("weight 0", x, 1, 10000, 0);
        fails("weight 10", x, 1, 10010, 0);
        fails("weight 101", x, 1, 10101, 0);
        fails("weight 1001", x, 1, 11001, 0);
        succeeds("tie", x, 1, 20102);
        succeeds("tie at hook 3", x, 2, 2930270201L);
        succeeds("tie at hook 0", x, 1, 29001);
        fails("hook 4", x, 1, 29401, 0);
        fails("hook 0 has it", x, 1, 29000, 0);
        fails("thing 89", x, 1, 28901, 0);
        fails("thing 24", x, 1, 22401, 0);
        fails("part 3", x, 1, 20103, 0);
        fails("part 24", x, 1, 20124, 0);
        fails("the same", x, 1, 20202, 0);
        fails("there is one", x, 1, 20001, 0);
        succeeds("a sound one", x, 2, 2000270201L);
        succeeds("cut", x, 2, 3000170100L);
        succeeds("cut at a hook", x, 2, 3900070000L);
        fails("cut none", x, 1, 30002, 0);
        fails("cut at no hook", x, 1, 39400, 0);
        succeeds("pin", x, 2, 4000270201L);
        succeeds("unpin", x, 3, 400024010270200L);
        fails("pin 2", x, 1, 40202, 0);
        fails("pin with a digit", x, 1, 41002, 0);
        fails("pin none", x, 1, 40003, 0);
        fails("unpin none", x, 1, 40199, 0);
        succeeds("unpin what is not pinned", x, 1, 40102);
    }

    private static void steps() {
        StringShed x = Check.shed("Sn1n2n3th000t0001");
        succeeds("begin", x, 1, 50000);
        fails("begin with a digit", x, 1, 50001, 0);
        fails("begin with a digit", x, 1, 51000, 0);
        fails("begin twice", x, 2, 5000050000L, 1);
        fails("no sweep", x, 1, 60001, 0);
        fails("no sweep, no step", x, 1, 60000, 0);
        fails("no step is no command", x, 2, 5000060000L, 1);
        fails("no step, third", x, 3, 500006000160000L, 2);
        succeeds("one step", x, 2, 5000060001L);
        succeeds("many steps", x, 2, 5000060099L);
        fails("steps with a digit", x, 2, 5000060101L, 1);
        fails("steps with a digit", x, 2, 5000061001L, 1);
        succeeds("two leave the sweep open", x, 3, 500006000260001L);
        succeeds("three end it and sweep part 2", x, 3, 500006000350000L);
        fails("it is gone", x, 3, 500006000340002L, 2);
        succeeds("it is there yet", x, 3, 500006000240002L);
        fails("behind the end", x, 3, 500006000360001L, 2);
        x.begin();
        fails("no step is no command, first", x, 1, 60000, 0);
        fails("no step before one", x, 2, 6000060001L, 0);
        fails("no step after one", x, 2, 6000160000L, 1);
        fails("no step three times", x, 3, 600006000060000L, 0);
        succeeds("ten steps", x, 1, 60010);
        succeeds("one step is no more", x, 3, 600016000160001L);
        fails("the fourth is too much", x, 3, 600026000160001L, 2);
        x.step();
        x.step();
        fails("one ends it", x, 2, 6000140002L, 1);
        fails("no step, where one would end it", x, 2, 6000040002L, 0);
        Check.is("the sweep goes on", 1, () -> x.about(8));
    }

    private static void questions() {
        StringShed x = Check.shed("Sn9n9n9n9n9n9n9n9n9n9n9n9n9n2th000t0001t0102p03");
        succeeds("held", x, 1, 70201);
        fails("held", x, 1, 70200, 0);
        succeeds("not held", x, 1, 70400);
        fails("not held", x, 1, 70401, 0);
        fails("h 2", x, 1, 70202, 0);
        fails("h 2, not held", x, 1, 70402, 0);
        fails("a digit", x, 1, 70211, 0);
        fails("no part", x, 1, 71401, 0);
        fails("no part, not held", x, 1, 71400, 0);
        fails("part 99", x, 1, 79900, 0);
        succeeds("depth 3", x, 1, 80203);
        fails("depth 2", x, 1, 80202, 0);
        succeeds("depth 99", x, 1, 80299);
        succeeds("depth 0", x, 1, 80300);
        fails("not held", x, 1, 80499, 0);
        fails("no part", x, 1, 82499, 0);
        fails("part 14", x, 1, 81499, 0);
        succeeds("weight 36", x, 1, 90036);
        fails("weight 35", x, 1, 90035, 0);
        succeeds("weight 999", x, 1, 90999);
        fails("weight with a digit", x, 1, 91000, 0);
        for (int p = 4; p < 14; p++) {
            x.pin(p, true);
        }
        succeeds("weight 119", x, 1, 90119);
        fails("weight 118", x, 1, 90118, 0);
        StringShed empty = new StringShed();
        succeeds("weight 0", empty, 1, 90000);
    }

    private static void order() {
        StringShed x = Check.shed("Sn1");
        fails("the first", x, 3, 700017000170001L, 0);
        fails("the second", x, 3, 700007000170001L, 1);
        fails("the third", x, 3, 700007000070001L, 2);
        succeeds("all", x, 3, 700007000070000L);
        succeeds("each goes on from the last", x, 3, 290004000070001L);
        succeeds("a new part", x, 3, 100092900170101L);
        fails("the number says the order", x, 2, 7000129000L, 0);
        succeeds("the number says the order", x, 2, 2900070001L);
    }

    private static void copies() {
        StringShed x = Check.shed("Sn1n2n3th000t0001");
        x.begin();
        x.runScript(3, 100093000160009L);
        x.simulate(7, 200);
        Check.is("parts", 3, () -> x.about(1));
        Check.is("strings", 2, () -> x.about(3));
        Check.is("sweeps", 0, () -> x.about(9));
        Check.is("sweep", 1, () -> x.about(8));
        Check.is("colour", 1, () -> x.part(0, 6));
        Check.is("undo begin alone", 0, x::undo);
    }

    private static void simulate() {
        String text = "Sn1n2n3n4n5n6n7n8n9n1n2n3n4n5n6n7n8n9n1n2n3n4n5n6";
        StringShed x = Check.shed(text);
        Check.refused("no turns", IllegalArgumentException.class, () -> x.simulate(1, 0));
        Check.refused("201 turns", IllegalArgumentException.class, () -> x.simulate(1, 201));
        Check.refused("-1 turns", IllegalArgumentException.class, () -> x.simulate(1, -1));
        long[] seeds = {0, 1, -1, 42, Long.MAX_VALUE, Long.MIN_VALUE, 123456789012345L};
        for (long seed : seeds) {
            for (int m = 1; m <= 200; m++) {
                int turns = m;
                Check.is("simulate " + seed + " " + m, byCalls(Check.shed(text), seed, m),
                    () -> Check.shed(text).simulate(seed, turns));
            }
        }
    }

    /** The turns as calls on another object, which is made like the first one. */
    private static long byCalls(StringShed x, long seed, int m) {
        int before = x.about(2);
        long state = seed;
        for (int turn = 0; turn < m; turn++) {
            state = state * 6364136223846793005L + 1442695040888963407L;
            int r = (int) (state >>> 33);
            turn(x, r % 8, r / 512 % 28 - 4, r / 16 % 24, r / 16384 % 2 == 1);
        }
        return 1000L * (x.about(2) - before) + x.about(7);
    }

    private static void turn(StringShed x, int kind, int above, int p, boolean is) {
        try {
            if (kind <= 1) {
                x.tie(above, p, true);
            } else if (kind == 2) {
                x.cut(above, p);
            } else if (kind == 3) {
                x.fray(above, p);
            } else if (kind == 4) {
                x.mend(above, p);
            } else if (kind == 5) {
                x.pin(p, is);
            } else if (x.about(8) == 1) {
                x.step();
            } else {
                x.begin();
            }
        } catch (IndexOutOfBoundsException | IllegalArgumentException | IllegalStateException leftOut) {
            // What would throw is left out.
        }
    }

    /** "a number of at most 5 * n digits (0 or more)": the greatest and the least one, and the next ones outside. */
    private static void digitsOfEachNumber() {
        StringShed x = Check.shed("Sn1");
        long limit = 1;
        for (int n = 1; n <= 3; n++) {
            limit *= 100000;
            int commands = n;
            long past = limit;
            fails("all nines", x, n, limit - 1, 0);
            fails("nought", x, n, 0, 0);
            Check.refused("a digit more", IllegalArgumentException.class, () -> x.runScript(commands, past));
            Check.refused("less than nought", IllegalArgumentException.class, () -> x.runScript(commands, -1));
            fails("only the last one is a command", x, n, 10001, n == 1 ? -9 : 0);
        }
        succeeds("one", x, 1, 70000);
        succeeds("two", x, 2, 7000070000L);
        succeeds("three", x, 3, 700007000070000L);
        Check.refused("two for one", IllegalArgumentException.class, () -> x.runScript(1, 7000070000L));
        Check.refused("three for two", IllegalArgumentException.class, () -> x.runScript(2, 700007000070000L));
        Check.refused("four", IllegalArgumentException.class, () -> x.runScript(4, 700007000070000L));
    }

    /** "(also one with another digit where a 0 is written)": each digit at each such place. */
    private static void zeros() {
        StringShed x = Check.shed("Sn1n2n3th000p01");
        int[][] commands = {
            // A group that succeeds, and the places, as powers of ten, where a 0 is written.
            {10009, 1000, 100, 10}, {40002, 1000}, {50000, 1000, 100, 10, 1}, {70001, 10}, {90999, 1000}
        };
        for (int[] command : commands) {
            succeeds("as it is written", x, 1, command[0]);
            for (int i = 1; i < command.length; i++) {
                for (int digit = 1; digit <= 9; digit++) {
                    fails("another digit", x, 1, command[0] + digit * command[i], 0);
                }
            }
        }
        x.begin();
        succeeds("as it is written", x, 1, 60001);
        for (int digit = 1; digit <= 9; digit++) {
            fails("another digit", x, 1, 60001 + 100 * digit, 0);
            fails("another digit", x, 1, 60001 + 1000 * digit, 0);
        }
        for (int k = 2; k <= 9; k++) {
            fails("k is 0 or 1", x, 1, 40002 + 100 * k, 0);
            fails("h is 0 or 1", x, 1, 70000 + k, 0);
        }
        for (int group = 0; group < 10000; group++) {
            fails("no command 0", ScriptTest::twoInSweep, 1, group, 0);
        }
    }

    private static StringShed twoInSweep() {
        StringShed x = new StringShed();
        x.make(1);
        x.make(2);
        x.begin();
        return x;
    }

    /** "aa from 00 to 23 is a part, from 90 to 93 the hooks 0 to 3"; "parts, hooks or strings that do not exist fail" */
    private static void thingsAndParts() {
        Twins.Maker all = () -> Check.shed("S" + "n1".repeat(24));
        for (int aa = 0; aa <= 99; aa++) {
            boolean isThing = aa <= 23 || aa >= 90 && aa <= 93;
            int pp = aa == 7 ? 8 : 7;
            fails("tie from " + aa, all, 1, 20000 + 100 * aa + pp, isThing ? -9 : 0);
            fails("tie, and cut it", all, 2, 2000030000L + twice(aa, pp), isThing ? -9 : 0);
            fails("cut none", all, 1, 30000 + 100 * aa + pp, 0);
        }
        for (int pp = 0; pp <= 99; pp++) {
            fails("tie to " + pp, all, 1, 29000 + pp, pp <= 23 ? -9 : 0);
            fails("pin " + pp, all, 1, 40000 + pp, pp <= 23 ? -9 : 0);
            fails("unpin " + pp, all, 1, 40100 + pp, pp <= 23 ? -9 : 0);
            fails("not held " + pp, all, 1, 70000 + 100 * pp, pp <= 23 ? -9 : 0);
            fails("held " + pp, all, 1, 70001 + 100 * pp, 0);
            fails("depth of " + pp, all, 1, 80099 + 100 * pp, 0);
        }
        Twins.Maker two = () -> Check.shed("Sn1n1n1p00p01bsss");
        for (int pp = 0; pp <= 99; pp++) {
            fails("tie to what is there, " + pp, two, 1, 29000 + pp, pp <= 1 ? -9 : 0);
            fails("held, what is there, " + pp, two, 1, 70001 + 100 * pp, pp <= 1 ? -9 : 0);
            fails("not held, what is swept or was not made, " + pp, two, 1, 70000 + 100 * pp, 0);
            fails("depth of what is there, " + pp, two, 1, 80000 + 100 * pp, pp <= 1 ? -9 : 0);
        }
    }

    private static long twice(int aa, int pp) {
        long at = 100L * aa + pp;
        return at * 100000 + at;
    }

    /** "xy steps, one after the other, until the sweep ends (at least one)" */
    private static void stepsOfEachNumber() {
        Twins.Maker x = () -> Check.shed("Sn1n1n1n1n1th000t0001t0102b");
        for (int xy = 0; xy <= 99; xy++) {
            // Three steps blacken what hangs, the fourth one ends the sweep.
            fails("steps " + xy, x, 1, 60000 + xy, xy == 0 ? 0 : -9);
            fails("steps " + xy + ", is 4 there", x, 2, 6000070400L + 100000L * xy, xy == 0 ? 0 : xy < 4 ? -9 : 1);
            fails("steps " + xy + ", one more", x, 2, 6000060001L + 100000L * xy, xy == 0 ? 0 : xy < 4 ? -9 : 1);
            fails("steps " + xy + ", begin", x, 2, 6000050000L + 100000L * xy, xy == 0 ? 0 : xy < 4 ? 1 : -9);
        }
        Twins.Maker none = () -> Check.shed("Sn1");
        for (int xy = 0; xy <= 99; xy++) {
            fails("no sweep, steps " + xy, none, 1, 60000 + xy, 0);
            fails("begun, steps " + xy, none, 2, 5000060000L + xy, xy == 0 ? 1 : -9);
        }
    }

    /** "its depth is at most xy"; "the weight of all held parts is at most xyz": each number. */
    private static void depthAndWeight() {
        for (int p = 0; p < 24; p++) {
            for (int xy = 0; xy <= 99; xy += xy < 30 ? 1 : 23) {
                fails("depth of " + p + ", " + xy, ScriptTest::chain, 1, 80000 + 100 * p + xy, p + 1 <= xy ? -9 : 0);
            }
        }
        for (int xyz = 0; xyz <= 999; xyz++) {
            fails("weight 216, " + xyz, ScriptTest::chain, 1, 90000 + xyz, xyz >= 216 ? -9 : 0);
        }
        StringShed x = chain();
        succeeds("pinned: depth 0", x, 2, 4000780700L);
        fails("cut: not held", x, 2, 3060780799L, 1);
        succeeds("cut: weight", x, 2, 3060790063L);
        fails("cut: weight", x, 2, 3060790062L, 1);
        succeeds("all cut: weight 0", x, 2, 3900090000L);
    }

    /** 24 parts of the weight 9 at hook 0, one below the other. */
    private static StringShed chain() {
        StringShed x = new StringShed();
        for (int p = 0; p < 24; p++) {
            x.make(9);
            x.tie(p - 1, p, true);
        }
        return x;
    }

    /** "The commands 1 to 6 fail if the method would throw an exception" */
    private static void failsAsTheMethod() {
        StringShed full = Sheds.full();
        for (int w = 0; w <= 9; w++) {
            fails("24 were made", full, 1, 10000 + w, 0);
        }
        fails("40 strings", full, 1, 29101, 0);
        succeeds("cut one first", full, 2, 3010229101L);
        fails("and one more", full, 3, 301022910129201L, 2);
        StringShed x = Check.shed("S" + "n1".repeat(23));
        succeeds("the 24th", x, 1, 10001);
        fails("the 25th", x, 2, 1000110001L, 1);
        for (int w = 0; w <= 9; w++) {
            fails("weight " + w, x, 1, 10000 + w, w == 0 ? 0 : -9);
        }
        fails("the same part", x, 1, 20505, 0);
        succeeds("another one", x, 1, 20506);
        fails("twice", x, 2, 2050620506L, 1);
        succeeds("the other way round", x, 2, 2050620605L);
        fails("cut twice", x, 3, 205063050630506L, 2);
        fails("begin twice", x, 2, 5000050000L, 1);
        succeeds("begin, end, begin", x, 3, 500006000150000L);
    }

    /** Each of the 100000 groups, at a shed without a sweep, in one, and at a full one. */
    private static void eachGroup() {
        String[] texts = {
            "Sn3n4n5n6n7th000t0001t0002p03t0302t0402bsssssf0002n9n2t0605t0506",
            "Sn3n4n5n6n7th000t0001t0002p03t0302t0402bsssssf0002n9n2t0605t0506bsn1",
            "Sn7b" + "n6".repeat(23) + "s" + "t0102t0203t0304t0405t0506t0607th001"
        };
        for (int i = 0; i < texts.length; i++) {
            for (int group = 0; group < 100000; group += 300) {
                groups(texts[i], i == 2, group);
            }
        }
    }

    private static void groups(String text, boolean isFull, int first) {
        StringShed x = new StringShed();
        Model m = new Model();
        for (int i = 0; i < text.length(); i++) {
            x.append(text.charAt(i));
            m.append(text.charAt(i));
        }
        Check.is("load", m.load(), x::load);
        for (int p = 1; isFull && x.about(3) < 40; p++) {
            x.tie(-1 - p % 4, p % 23 + 1, p % 5 != 0);
            m.tie(-1 - p % 4, p % 23 + 1, p % 5 != 0);
        }
        for (int group = first; group < first + 300 && group < 100000; group++) {
            int g = group;
            Check.is("load " + text + ": runScript 1 " + g, m.runScript(1, g), () -> x.runScript(1, g));
        }
    }

    /** "Returns 1000 * (the parts that are swept in them) + (the weight of all held parts at the end).": not those before. */
    private static void simulateOnAState() {
        String[] texts = {
            "Sn3n4n5n6n7th000t0001t0002p03t0302t0402bsssssf0002n9n2t0605t0506bsn1",
            "S" + "n9".repeat(24) + "th000t0001t0102t0203p04p05t0406b",
            "Sn1n2n3bsn4n5n6n7n8th003t0304p05p06t0507t0604"
        };
        for (String text : texts) {
            StringShed x = Check.shed(text);
            for (int seed = 0; seed < 40; seed++) {
                for (int m : new int[] {1, 2, 50, 199, 200}) {
                    long s = seed * 0x9E3779B97F4A7C15L;
                    Check.is(text + ": simulate " + s + " " + m, byCalls(Check.shed(text), s, m), () -> x.simulate(s, m));
                }
            }
        }
    }

    /** "m: number of turns, 1 to 200" */
    private static void turnsOfEachNumber() {
        StringShed x = Check.shed("Sn3p00");
        for (int m = -3; m <= 203; m++) {
            int turns = m;
            if (m < 1 || m > 200) {
                Check.refused("turns " + m, IllegalArgumentException.class, () -> x.simulate(5, turns));
            } else {
                Check.is("turns " + m, byCalls(Check.shed("Sn3p00"), 5, m), () -> x.simulate(5, turns));
            }
        }
    }
}
