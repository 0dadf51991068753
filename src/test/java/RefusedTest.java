/**
 * "If several exceptions apply to a call, the one that its description names first is thrown. A call that throws
 * an exception changes nothing.": every exception of every promise, and the state, what is remembered, the save
 * slots and the text behind it.
 */
public final class RefusedTest {
    private static final Class<? extends RuntimeException> NOT_THERE = IndexOutOfBoundsException.class;
    private static final Class<? extends RuntimeException> OUT_OF_RANGE = IllegalArgumentException.class;
    private static final Class<? extends RuntimeException> NOT_NOW = IllegalStateException.class;

    private static final int MOST = Integer.MAX_VALUE;
    private static final int LEAST = Integer.MIN_VALUE;

    public static void main(String[] args) {
        append();
        load();
        about();
        part();
        string();
        stringAt();
        make();
        tie();
        tieSame();
        tieAgain();
        stringsThatAreNot();
        frayed();
        sound();
        pin();
        beginAndStep();
        undo();
        cuts();
        way();
        runScript();
        simulate();
        slots();
        Check.end();
    }

    private static void inFewAndBusy(String call, Class<? extends RuntimeException> due, Twins.On on) {
        Twins.refused(call + " without a sweep", due, Sheds::few, on);
        Twins.refused(call + " in a sweep", due, Sheds::busy, on);
    }

    /** Promise 2: the range of c is named before the full text. */
    private static void append() {
        for (int c : new int[] {-1, 256, 256 + 'S', LEAST, MOST}) {
            inFewAndBusy("append " + c, OUT_OF_RANGE, x -> x.append(c));
            Twins.refused("append to 120 " + c, OUT_OF_RANGE, Sheds::full, x -> x.append(c));
        }
        for (int c : new int[] {0, 's', 255}) {
            Twins.refused("append to 120 " + c, NOT_NOW, Sheds::full, x -> x.append(c));
            Twins.refused("append to 120 " + c, NOT_NOW, Sheds::fullOfWrongText, x -> x.append(c));
        }
    }

    /** Promise 5: "if the text is not a shed". */
    private static void load() {
        Twins.refused("load of no text", NOT_NOW, Sheds::bare, StringShed::load);
        Twins.refused("load of 120 characters", NOT_NOW, Sheds::fullOfWrongText, StringShed::load);
        for (String text : new String[] {"", "s", "Sn", "Sn0", "Sn1x00", "Sn1n2!", "Sn1 n2", "Sn1th00"}) {
            Twins.refused("load " + text, NOT_NOW, () -> withText(Sheds.few(), text), StringShed::load);
            Twins.refused("load in a sweep " + text, NOT_NOW, () -> withText(Sheds.busy(), text), StringShed::load);
        }
    }

    private static StringShed withText(StringShed x, String text) {
        x.clearText();
        Check.write(x, text);
        return x;
    }

    private static void about() {
        for (int what : new int[] {-1, 12, LEAST, MOST}) {
            inFewAndBusy("about " + what, OUT_OF_RANGE, x -> x.about(what));
        }
    }

    /** Promise 7: the part is named before what. */
    private static void part() {
        for (int p : Sheds.NO_PART) {
            inFewAndBusy("part " + p + " 0", NOT_THERE, x -> x.part(p, 0));
            inFewAndBusy("part " + p + " -1", NOT_THERE, x -> x.part(p, -1));
            inFewAndBusy("part " + p + " 7", NOT_THERE, x -> x.part(p, 7));
        }
        for (int what : new int[] {-1, 7, LEAST, MOST}) {
            inFewAndBusy("part 0 " + what, OUT_OF_RANGE, x -> x.part(0, what));
            inFewAndBusy("part 6 " + what, OUT_OF_RANGE, x -> x.part(6, what));
        }
    }

    private static void string() {
        for (int p : Sheds.NO_PART) {
            inFewAndBusy("string -1 " + p, NOT_THERE, x -> x.string(-1, p));
            inFewAndBusy("string 0 " + p, NOT_THERE, x -> x.string(0, p));
        }
        for (int above : Sheds.NO_THING) {
            inFewAndBusy("string " + above + " 0", NOT_THERE, x -> x.string(above, 0));
            inFewAndBusy("string, the same " + above, NOT_THERE, x -> x.string(above, above));
        }
    }

    private static void stringAt() {
        inFewAndBusy("stringAt -1", OUT_OF_RANGE, x -> x.stringAt(-1));
        inFewAndBusy("stringAt least", OUT_OF_RANGE, x -> x.stringAt(LEAST));
    }

    /** Promise 10: the weight is named before the 24 parts. */
    private static void make() {
        for (int weight : new int[] {0, 10, -1, LEAST, MOST}) {
            inFewAndBusy("make " + weight, OUT_OF_RANGE, x -> x.make(weight));
            Twins.refused("make the 25th of " + weight, OUT_OF_RANGE, Sheds::full, x -> x.make(weight));
        }
        Twins.refused("make the 25th of 1", NOT_NOW, Sheds::full, x -> x.make(1));
        Twins.refused("make the 25th of 9", NOT_NOW, Sheds::full, x -> x.make(9));
    }

    private static void tie() {
        for (boolean sound : new boolean[] {true, false}) {
            for (int p : Sheds.NO_PART) {
                inFewAndBusy("tie -1 " + p, NOT_THERE, x -> x.tie(-1, p, sound));
                inFewAndBusy("tie 0 " + p, NOT_THERE, x -> x.tie(0, p, sound));
            }
            for (int above : Sheds.NO_THING) {
                inFewAndBusy("tie " + above + " 2", NOT_THERE, x -> x.tie(above, 2, sound));
            }
        }
    }

    /** Promise 11: what is not there is named before the same part, and that before the 40 strings. */
    private static void tieSame() {
        for (int p : Sheds.NO_THING) {
            inFewAndBusy("tie the same " + p, NOT_THERE, x -> x.tie(p, p, true));
        }
        for (int hook = -1; hook >= -4; hook--) {
            int h = hook;
            inFewAndBusy("tie a hook to itself " + h, NOT_THERE, x -> x.tie(h, h, true));
        }
        for (int part : new int[] {0, 2, 6}) {
            inFewAndBusy("tie the same " + part, OUT_OF_RANGE, x -> x.tie(part, part, true));
            inFewAndBusy("tie the same, frayed " + part, OUT_OF_RANGE, x -> x.tie(part, part, false));
        }
        Twins.refused("tie the same to 40", OUT_OF_RANGE, Sheds::full, x -> x.tie(23, 23, true));
        Twins.refused("tie a swept one to 40", NOT_THERE, Sheds::full, x -> x.tie(0, 0, true));
        Twins.refused("tie below a hook to 40", NOT_THERE, Sheds::full, x -> x.tie(23, -1, true));
    }

    private static void tieAgain() {
        for (boolean sound : new boolean[] {true, false}) {
            inFewAndBusy("tie a sound one again", NOT_NOW, x -> x.tie(-1, 0, sound));
            inFewAndBusy("tie a frayed one again", NOT_NOW, x -> x.tie(0, 2, sound));
            inFewAndBusy("tie the last one again", NOT_NOW, x -> x.tie(5, 6, sound));
            Twins.refused("tie the 41st", NOT_NOW, Sheds::full, x -> x.tie(-2, 1, sound));
            Twins.refused("tie one of 40 again", NOT_NOW, Sheds::full, x -> x.tie(-1, 1, sound));
        }
    }

    /** Promises 12, 13, 14 and 19: "if there is no such hook, part or string". */
    private static void stringsThatAreNot() {
        for (int p : Sheds.NO_PART) {
            noString(-1, p);
            noString(0, p);
        }
        for (int above : Sheds.NO_THING) {
            noString(above, 0);
            noString(above, above);
        }
        noString(-2, 0);
        noString(2, 0);
        noString(0, 0);
        noString(3, -2);
        noString(2, 3);
    }

    private static void noString(int above, int p) {
        inFewAndBusy("cut " + above + " " + p, NOT_THERE, x -> x.cut(above, p));
        inFewAndBusy("fray " + above + " " + p, NOT_THERE, x -> x.fray(above, p));
        inFewAndBusy("mend " + above + " " + p, NOT_THERE, x -> x.mend(above, p));
        inFewAndBusy("falls " + above + " " + p, NOT_THERE, x -> x.falls(above, p));
    }

    /** Promise 13: "if it is frayed". */
    private static void frayed() {
        inFewAndBusy("fray 0 2", NOT_NOW, x -> x.fray(0, 2));
        inFewAndBusy("fray -2 3", NOT_NOW, x -> x.fray(-2, 3));
    }

    /** Promise 14: "if it is sound". */
    private static void sound() {
        inFewAndBusy("mend -1 0", NOT_NOW, x -> x.mend(-1, 0));
        inFewAndBusy("mend 5 6", NOT_NOW, x -> x.mend(5, 6));
        inFewAndBusy("mend 0 1", NOT_NOW, x -> x.mend(0, 1));
    }

    private static void pin() {
        for (int p : Sheds.NO_PART) {
            inFewAndBusy("pin " + p, NOT_THERE, x -> x.pin(p, true));
            inFewAndBusy("unpin " + p, NOT_THERE, x -> x.pin(p, false));
        }
    }

    /** Promises 16 and 17: "if one goes on", "if no sweep goes on". */
    private static void beginAndStep() {
        Twins.refused("begin again", NOT_NOW, Sheds::busy, StringShed::begin);
        Twins.refused("begin again, empty", NOT_NOW, RefusedTest::emptySweep, StringShed::begin);
        Twins.refused("step without a sweep", NOT_NOW, Sheds::few, StringShed::step);
        Twins.refused("step of nothing", NOT_NOW, Sheds::bare, StringShed::step);
        Twins.refused("step behind the end", NOT_NOW, RefusedTest::ended, StringShed::step);
    }

    private static StringShed emptySweep() {
        StringShed x = new StringShed();
        x.begin();
        return x;
    }

    private static StringShed ended() {
        StringShed x = emptySweep();
        x.step();
        return x;
    }

    /** Promise 18: "if none is remembered". */
    private static void undo() {
        Twins.refused("undo nothing", NOT_NOW, Sheds::bare, StringShed::undo);
        Twins.refused("undo behind restore", NOT_NOW, Sheds::sweeping, StringShed::undo);
        Twins.refused("undo behind load", NOT_NOW, () -> Check.shed("Sn1n2th000b"), StringShed::undo);
        Twins.refused("undo behind the last undo", NOT_NOW, RefusedTest::allUndone, StringShed::undo);
    }

    private static StringShed allUndone() {
        StringShed x = Sheds.busy();
        for (int i = 0; i < 14; i++) {
            x.undo();
        }
        return x;
    }

    private static void cuts() {
        for (int p : Sheds.NO_PART) {
            inFewAndBusy("cuts " + p, NOT_THERE, x -> x.cuts(p));
        }
    }

    /** Promise 25: the part is named before i. */
    private static void way() {
        for (int p : Sheds.NO_PART) {
            inFewAndBusy("way " + p + " 0", NOT_THERE, x -> x.way(p, 0));
            inFewAndBusy("way " + p + " -1", NOT_THERE, x -> x.way(p, -1));
        }
        for (int p : new int[] {0, 2, 3, 6}) {
            inFewAndBusy("way " + p + " -1", OUT_OF_RANGE, x -> x.way(p, -1));
            inFewAndBusy("way " + p + " least", OUT_OF_RANGE, x -> x.way(p, LEAST));
        }
    }

    private static void runScript() {
        for (int n : new int[] {0, 4, -1, LEAST, MOST}) {
            for (long script : new long[] {0, 1, 10001, -1, Long.MIN_VALUE, Long.MAX_VALUE}) {
                inFewAndBusy("runScript " + n + " " + script, OUT_OF_RANGE, x -> x.runScript(n, script));
            }
        }
        for (int n = 1; n <= 3; n++) {
            int commands = n;
            for (long script : new long[] {-1, -10001, Long.MIN_VALUE, limit(n), limit(n) + 10001, Long.MAX_VALUE}) {
                inFewAndBusy("runScript " + n + " " + script, OUT_OF_RANGE, x -> x.runScript(commands, script));
            }
        }
    }

    private static long limit(int n) {
        return Long.parseLong("1" + "00000".repeat(n));
    }

    private static void simulate() {
        for (int m : new int[] {0, 201, -1, LEAST, MOST}) {
            for (long seed : new long[] {0, 1, Long.MIN_VALUE, Long.MAX_VALUE}) {
                inFewAndBusy("simulate " + m, OUT_OF_RANGE, x -> x.simulate(seed, m));
            }
        }
    }

    /** Promises 28 and 29: the slot is named before what has been saved in it. */
    private static void slots() {
        for (int slot : new int[] {-1, 2, LEAST, MOST}) {
            inFewAndBusy("save " + slot, NOT_THERE, x -> x.save(slot));
            inFewAndBusy("restore " + slot, NOT_THERE, x -> x.restore(slot));
            Twins.refused("restore " + slot, NOT_THERE, Sheds::full, x -> x.restore(slot));
        }
        Twins.refused("restore 0, not saved", NOT_NOW, Sheds::few, x -> x.restore(0));
        Twins.refused("restore 1, not saved", NOT_NOW, Sheds::few, x -> x.restore(1));
        Twins.refused("restore 1, not saved", NOT_NOW, Sheds::busy, x -> x.restore(1));
        Twins.refused("restore 0 behind load", NOT_NOW, RefusedTest::loadedAnew, x -> x.restore(0));
        Twins.refused("restore 1 behind load", NOT_NOW, RefusedTest::loadedAnew, x -> x.restore(1));
    }

    private static StringShed loadedAnew() {
        StringShed x = Sheds.full();
        x.load();
        x.pin(5, true);
        return x;
    }
}
