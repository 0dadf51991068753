/** Promises 10 to 18: make, tie, cut, fray, mend, pin, begin, step, undo. */
public final class ActionTest {
    public static void main(String[] args) {
        make();
        tie();
        cut();
        frayAndMend();
        pin();
        begin();
        step();
        changesInSweep();
        heldNoMore();
        heldByIt();
        heldThen();
        graysAtBegin();
        lastStep();
        undo();
        undoForgets();
        fourteenStates();
        actionsThatChangeNothing();
        newAfterUndo();
        notActions();
        Check.end();
    }

    private static void make() {
        StringShed x = new StringShed();
        Check.refused("make 0", IllegalArgumentException.class, () -> x.make(0));
        Check.refused("make 10", IllegalArgumentException.class, () -> x.make(10));
        for (int i = 0; i < 24; i++) {
            int p = i;
            Check.is("make", p, () -> x.make(1 + p % 9));
            Check.is("weight", 1 + p % 9, () -> x.part(p, 0));
        }
        Check.is("it hangs by nothing", 0, () -> x.about(6));
        Check.refused("make the 25th", IllegalStateException.class, () -> x.make(1));
        Check.refused("make the 25th of 0", IllegalArgumentException.class, () -> x.make(0));
        x.begin();
        Check.is("sweep them all", -33, x::step);
        Check.refused("24 were made", IllegalStateException.class, () -> x.make(1));
    }

    private static void tie() {
        StringShed x = Check.shed("Sn1n2n3");
        Check.is("tie", 1, () -> x.tie(-1, 0, true));
        Check.is("tie frayed", 2, () -> x.tie(0, 1, false));
        Check.is("frayed does not hold", 0, () -> x.part(1, 2));
        Check.is("tie upwards", 3, () -> x.tie(1, 0, true));
        Check.refused("again", IllegalStateException.class, () -> x.tie(-1, 0, true));
        Check.refused("again, frayed", IllegalStateException.class, () -> x.tie(-1, 0, false));
        Check.refused("the same part", IllegalArgumentException.class, () -> x.tie(2, 2, true));
        Check.refused("no part", IndexOutOfBoundsException.class, () -> x.tie(3, 3, true));
        Check.refused("no hook", IndexOutOfBoundsException.class, () -> x.tie(-5, 0, true));
        Check.refused("hook below", IndexOutOfBoundsException.class, () -> x.tie(0, -1, true));
        Check.refused("no part below", IndexOutOfBoundsException.class, () -> x.tie(-1, 3, true));
        fortyStrings();
    }

    private static void fortyStrings() {
        StringShed x = Check.shed("S" + "n1".repeat(11));
        for (int i = 0; i < 40; i++) {
            int n = i;
            Check.is("tie " + n, n + 1, () -> x.tie(-1 - n % 4, n / 4, true));
        }
        Check.is("the 40th", 9, () -> x.stringAt(39));
        Check.refused("the 41st", IllegalStateException.class, () -> x.tie(-1, 10, true));
        Check.refused("the same part first", IllegalArgumentException.class, () -> x.tie(10, 10, true));
        x.cut(-1, 0);
        Check.is("one less", 39, () -> x.about(3));
        Check.is("one more", 40, () -> x.tie(-1, 10, true));
        Check.is("the order", 200, () -> x.stringAt(0));
    }

    private static void cut() {
        StringShed x = Check.shed("Sn3n4n5n6th000t0001t0102t0203t0301");
        Check.is("cut what a ring needs", 3, () -> x.cut(0, 1));
        Check.is("held", 1, () -> x.about(6));
        Check.is("cut what holds nothing", 0, () -> x.cut(1, 2));
        Check.is("strings", 3, () -> x.about(3));
        Check.refused("cut it again", IndexOutOfBoundsException.class, () -> x.cut(1, 2));
        Check.refused("no such part", IndexOutOfBoundsException.class, () -> x.cut(9, 2));
        Check.refused("no such hook", IndexOutOfBoundsException.class, () -> x.cut(-6, 0));
        Check.refused("no such part below", IndexOutOfBoundsException.class, () -> x.cut(-1, 24));
        StringShed y = Check.shed("Sn3n4th000t0001th101p01");
        Check.is("pinned is held", 0, () -> y.cut(-2, 1));
        Check.is("one falls", 1, () -> y.cut(-1, 0));
    }

    private static void frayAndMend() {
        StringShed x = Check.shed("Sn3n4n5th000t0001t0102t0201");
        Check.is("fray", 2, () -> x.fray(0, 1));
        Check.refused("fray the frayed", IllegalStateException.class, () -> x.fray(0, 1));
        Check.is("it is there yet", 4, () -> x.about(3));
        Check.is("fray another", 1, () -> x.fray(-1, 0));
        Check.is("mend without effect", 0, () -> x.mend(0, 1));
        Check.is("mend", 3, () -> x.mend(-1, 0));
        Check.refused("mend the sound", IllegalStateException.class, () -> x.mend(-1, 0));
        Check.refused("fray none", IndexOutOfBoundsException.class, () -> x.fray(-2, 0));
        Check.refused("mend none", IndexOutOfBoundsException.class, () -> x.mend(-2, 0));
        Check.refused("fray at no part", IndexOutOfBoundsException.class, () -> x.fray(-1, 3));
        Check.refused("mend at no hook", IndexOutOfBoundsException.class, () -> x.mend(-5, 0));
        x.tie(0, 2, true);
        Check.is("fray what is held otherwise", 0, () -> x.fray(0, 1));
        Check.is("cut the frayed", 0, () -> x.cut(0, 1));
    }

    private static void pin() {
        StringShed x = Check.shed("Sn3n4n5t0001t0102");
        Check.is("pin", 2, () -> x.pin(1, true));
        Check.is("depth", 1, () -> x.part(2, 3));
        Check.is("pin again", 2, () -> x.pin(1, true));
        Check.is("pin another", 3, () -> x.pin(0, true));
        Check.is("unpin", 3, () -> x.pin(1, false));
        Check.is("unpin again", 3, () -> x.pin(1, false));
        Check.is("unpin the last", 0, () -> x.pin(0, false));
        Check.refused("pin none", IndexOutOfBoundsException.class, () -> x.pin(3, true));
        Check.refused("pin a hook", IndexOutOfBoundsException.class, () -> x.pin(-1, true));
        Check.refused("unpin none", IndexOutOfBoundsException.class, () -> x.pin(24, false));
    }

    private static void begin() {
        StringShed x = Check.shed("Sn1n2n3n4n5th304p02th100t0001th003fh003th204");
        Check.is("begin", 3, x::begin);
        Check.refused("begin again", IllegalStateException.class, x::begin);
        int[] colours = {1, 0, 1, 0, 1};
        for (int p = 0; p < 5; p++) {
            int q = p;
            Check.is("colour " + q, colours[q], () -> x.part(q, 6));
        }
        Check.is("ascending", 0, x::step);
        Check.is("ascending", 2, x::step);
        Check.is("ascending", 4, x::step);
        Check.is("then what came later", 1, x::step);
    }

    private static void step() {
        StringShed x = Check.shed("Sn1n2n3n4n5n6th000t0003t0001t0002f0002t0104t0304t0501t0500");
        Check.refused("step without a sweep", IllegalStateException.class, x::step);
        x.begin();
        int[] due = {0, 3, 1, 4, -11};
        for (int i = 0; i < due.length; i++) {
            int want = due[i];
            Check.is("step", want, x::step);
        }
        Check.refused("step behind the end", IllegalStateException.class, x::step);
        Check.is("strings gone", 3, () -> x.about(10));
        Check.is("strings left", 5, () -> x.about(3));
        Check.is("their order", 300, () -> x.stringAt(0));
        Check.is("their order", 403, () -> x.stringAt(1));
        Check.is("their order", 401, () -> x.stringAt(2));
        Check.is("their order", 504, () -> x.stringAt(3));
        Check.is("their order", 704, () -> x.stringAt(4));
        Check.is("no colours", -9, () -> x.part(0, 6));
    }

    private static void changesInSweep() {
        StringShed x = Check.shed("Sn1n2n3n4n5n6th000th101bs");
        Check.is("new is black", 6, () -> x.make(7));
        Check.is("black", 2, () -> x.part(6, 6));
        x.tie(0, 2, false);
        Check.is("frayed: white", 0, () -> x.part(2, 6));
        x.mend(0, 2);
        Check.is("mended at black: gray", 1, () -> x.part(2, 6));
        x.tie(1, 3, true);
        Check.is("tied at gray: white", 0, () -> x.part(3, 6));
        x.tie(3, 4, true);
        Check.is("tied at white: white", 0, () -> x.part(4, 6));
        x.tie(-4, 4, true);
        Check.is("tied at a hook: gray", 1, () -> x.part(4, 6));
        x.tie(6, 5, true);
        Check.is("tied at the new: gray", 1, () -> x.part(5, 6));
        x.tie(6, 0, true);
        Check.is("black stays", 2, () -> x.part(0, 6));
        x.pin(3, true);
        Check.is("pinned: gray", 1, () -> x.part(3, 6));
        x.pin(3, false);
        Check.is("unpinned: gray", 1, () -> x.part(3, 6));
        x.pin(0, true);
        Check.is("black stays pinned", 2, () -> x.part(0, 6));
        x.tie(-1, 2, true);
        int[] due = {1, 2, 4, 5, 3, -9};
        for (int want : due) {
            Check.is("the row", want, x::step);
        }
        Check.is("the new one is there", 7, () -> x.part(6, 0));
        StringShed y = Check.shed("Sn1n2n3n4t0001t0102p00b");
        y.tie(-1, 3, false);
        y.tie(3, 2, false);
        y.mend(3, 2);
        Check.is("mended at white: white", 0, () -> y.part(2, 6));
        y.mend(-1, 3);
        Check.is("mended at a hook: gray", 1, () -> y.part(3, 6));
        y.fray(-1, 3);
        Check.is("frayed: gray yet", 1, () -> y.part(3, 6));
    }

    private static void undo() {
        StringShed x = new StringShed();
        Check.refused("undo nothing", IllegalStateException.class, x::undo);
        x.make(3);
        x.make(4);
        x.tie(-1, 0, true);
        x.tie(0, 1, true);
        x.begin();
        x.step();
        Check.refused("refused", IllegalStateException.class, x::begin);
        x.fray(-1, 0);
        x.pin(0, false);
        Check.is("undo what changed nothing", 7, x::undo);
        Check.is("yet frayed", 2, () -> x.string(-1, 0));
        Check.is("undo fray", 6, x::undo);
        Check.is("sound again", 1, () -> x.string(-1, 0));
        Check.is("gray", 1, () -> x.part(1, 6));
        Check.is("undo step", 5, x::undo);
        Check.is("white again", 0, () -> x.part(1, 6));
        Check.is("gray again", 1, () -> x.part(0, 6));
        Check.is("undo begin", 4, x::undo);
        Check.is("no sweep", 0, () -> x.about(8));
        Check.is("undo tie", 3, x::undo);
        Check.is("one string", 1, () -> x.about(3));
        x.cut(-1, 0);
        Check.is("undo cut", 3, x::undo);
        Check.is("tied again", 300, () -> x.stringAt(0));
        x.pin(1, true);
        Check.is("undo pin", 3, x::undo);
        Check.is("not pinned", 0, () -> x.about(5));
        x.undo();
        Check.is("undo make", 1, x::undo);
        Check.is("one part", 1, () -> x.about(1));
        Check.is("undo the first", 0, x::undo);
        Check.is("none", 0, () -> x.about(1));
        Check.refused("undo no more", IllegalStateException.class, x::undo);
        undoSweep();
    }

    private static void undoSweep() {
        StringShed x = Check.shed("Sn1n2n3th000t0102");
        x.begin();
        x.step();
        Check.is("the sweep ends", -11, x::step);
        Check.is("undo the end", 2, x::undo);
        Check.is("parts are back", 3, () -> x.about(0));
        Check.is("strings are back", 501 + 1, () -> x.stringAt(1));
        Check.is("no sweep ended", 0, () -> x.about(9));
        Check.is("no string went", 0, () -> x.about(10));
        Check.is("none swept", 0, () -> x.about(2));
        Check.is("it ends again", -11, x::step);
        Check.is("parts", 1, () -> x.about(0));
    }

    private static void undoForgets() {
        StringShed x = new StringShed();
        for (int i = 0; i < 17; i++) {
            x.make(1);
        }
        Check.write(x, "!");
        for (int i = 13; i >= 0; i--) {
            int left = i;
            Check.is("undo", left, x::undo);
            Check.is("parts", left + 3, () -> x.about(0));
        }
        Check.refused("the oldest are forgotten", IllegalStateException.class, x::undo);
        Check.is("the text stays", 1, x::clearText);
        x.save(0);
        Check.refused("save is no action", IllegalStateException.class, x::undo);
        for (int i = 0; i < 30; i++) {
            x.pin(0, i % 2 == 0);
        }
        Check.is("fourteen", 13, x::undo);
        Check.is("pinned", 1, () -> x.part(0, 1));
        x.make(9);
        Check.is("in the place of the one undone", 13, x::undo);
        Check.is("pinned", 1, () -> x.part(0, 1));
    }

    /** A chain of 24 at hook 0, each part below the one before. */
    private static StringShed chain() {
        StringShed x = Check.shed("S" + "n9".repeat(24));
        for (int p = 0; p < 24; p++) {
            x.tie(p - 1, p, true);
        }
        return x;
    }

    /** Promises 12 and 13: "Returns the number of parts that are held no more.", from none to 24. */
    private static void heldNoMore() {
        for (int p = 0; p < 24; p++) {
            int below = p;
            StringShed x = chain();
            Check.is("cut above " + p, 24 - p, () -> x.cut(below - 1, below));
            Check.is("held", below, () -> x.about(6));
            StringShed y = chain();
            Check.is("fray above " + p, 24 - p, () -> y.fray(below - 1, below));
            Check.is("held", below, () -> y.about(6));
        }
        StringShed x = Check.shed("Sn1n1n1n1th000t0001t0002t0102f0001p01th101t0302");
        Check.is("cut a frayed one", 0, () -> x.cut(0, 1));
        Check.is("cut above a pinned one", 0, () -> x.cut(-2, 1));
        Check.is("cut below what is not held", 0, () -> x.cut(3, 2));
        Check.is("cut what is held otherwise", 0, () -> x.cut(1, 2));
        Check.is("cut what two hang from", 2, () -> x.cut(-1, 0));
        Check.is("cut where nothing is held", 0, () -> x.cut(0, 2));
    }

    /** Promise 14: "Returns the number of parts that are held by it, and were not.", from none to 24. */
    private static void heldByIt() {
        for (int p = 0; p < 24; p++) {
            int below = p;
            StringShed x = chain();
            x.fray(p - 1, p);
            Check.is("mend above " + p, 24 - p, () -> x.mend(below - 1, below));
            Check.is("all are held", 24, () -> x.about(6));
        }
        StringShed x = Check.shed("Sn1n1n1n1t0001t0203f0001f0203p01");
        Check.is("mend below what is not held", 0, () -> x.mend(2, 3));
        Check.is("mend above a pinned one", 0, () -> x.mend(0, 1));
        x.tie(-1, 0, false);
        Check.is("one, the other was held", 1, () -> x.mend(-1, 0));
    }

    /** Promise 15: "Returns the number of held parts then.", from none to 24. */
    private static void heldThen() {
        StringShed x = Check.shed("S" + "n1".repeat(24));
        for (int p = 0; p < 24; p++) {
            int q = p;
            Check.is("pin " + p, p + 1, () -> x.pin(q, true));
            Check.is("pinned", p + 1, () -> x.about(5));
        }
        for (int p = 0; p < 24; p++) {
            int q = p;
            Check.is("unpin " + p, 23 - p, () -> x.pin(q, false));
            Check.is("pinned", 23 - p, () -> x.about(5));
        }
        StringShed y = chain();
        Check.is("pin what hangs", 24, () -> y.pin(0, true));
        y.cut(-1, 0);
        Check.is("pinned, all hang from it", 24, () -> y.pin(23, false));
        Check.is("unpinned, none is held", 0, () -> y.pin(0, false));
        Check.is("pin the middle", 12, () -> y.pin(12, true));
        Check.is("pin the last too", 12, () -> y.pin(23, true));
        Check.is("the last alone", 1, () -> y.pin(12, false));
    }

    /** Promise 16: "Returns the number of gray parts.", from none to 24. */
    private static void graysAtBegin() {
        for (int n = 0; n <= 24; n++) {
            StringShed x = Check.shed("S" + "n1".repeat(24));
            for (int p = 0; p < n; p++) {
                x.pin(23 - p, true);
            }
            Check.is("begin with " + n, n, x::begin);
        }
        Check.is("begin without parts", 0, () -> new StringShed().begin());
        Check.is("those that hang deeper do not count", 1, () -> chain().begin());
    }

    /** Promise 17: "NONE less the number of parts that are swept", from none to 24. */
    private static void lastStep() {
        for (int n = 0; n <= 24; n++) {
            StringShed x = Check.shed("S" + "n1".repeat(n) + "b");
            Check.is("sweep " + n, -9 - n, x::step);
            Check.is("swept", n, () -> x.about(2));
            Check.is("none is left", 0, () -> x.about(0));
            Check.is("sweeps", 1, () -> x.about(9));
        }
    }

    /** "At most 14 states are remembered; when one more is remembered, the oldest one is forgotten." */
    private static void fourteenStates() {
        for (int n = 0; n <= 40; n++) {
            StringShed x = Check.shed("S" + "n1".repeat(10));
            for (int i = 0; i < n; i++) {
                x.tie(i % 4 - 4, i / 4, true);
            }
            int most = Math.min(n, 14);
            for (int i = 1; i <= most; i++) {
                int left = most - i;
                Check.is(n + " actions: undo", left, x::undo);
                Check.is(n + " actions: strings", n - i, () -> x.about(3));
            }
            Check.refused(n + " actions: no more", IllegalStateException.class, x::undo);
            Check.is("it changes nothing", n - most, () -> x.about(3));
        }
    }

    /** "Each call of one of them that does not throw an exception is an action, also if nothing becomes different" */
    private static void actionsThatChangeNothing() {
        StringShed x = Check.shed("Sn1n1p00");
        for (int i = 0; i < 5; i++) {
            x.pin(0, true);
            x.pin(1, false);
            Check.refused("refused", IndexOutOfBoundsException.class, () -> x.pin(2, true));
            Check.refused("refused", IllegalArgumentException.class, () -> x.make(0));
            Check.refused("refused", IllegalStateException.class, x::step);
        }
        for (int left = 9; left >= 0; left--) {
            Check.is("undo", left, x::undo);
            Check.is("nothing becomes different", 1, () -> x.about(5));
        }
        Check.refused("ten actions", IllegalStateException.class, x::undo);
        for (int i = 0; i < 14; i++) {
            x.pin(1, false);
        }
        Check.is("fourteen that change nothing", 13, x::undo);
        x.make(5);
        x.pin(1, false);
        Check.is("fourteen again", 13, x::undo);
        Check.is("the part is there", 3, () -> x.about(0));
        Check.is("undo make", 12, x::undo);
        Check.is("the part is not there", 2, () -> x.about(0));
    }

    /** What was undone is forgotten; the next action is remembered behind what is left. */
    private static void newAfterUndo() {
        for (int back = 0; back <= 14; back++) {
            StringShed x = Check.shed("S" + "n1".repeat(10));
            for (int i = 0; i < 20; i++) {
                x.tie(i % 4 - 4, i / 4, true);
            }
            for (int i = 0; i < back; i++) {
                x.undo();
            }
            int strings = 20 - back;
            int left = Math.min(14, 14 - back + 1) - 1;
            x.tie(9, 8, false);
            Check.is(back + " back: a new one", strings + 1, () -> x.about(3));
            Check.is(back + " back: undo", left, x::undo);
            Check.is(back + " back: strings", strings, () -> x.about(3));
            for (int i = 1; i <= left; i++) {
                int rest = left - i;
                Check.is(back + " back: undo", rest, x::undo);
            }
            Check.is(back + " back: the oldest", strings - left, () -> x.about(3));
            Check.refused(back + " back: no more", IllegalStateException.class, x::undo);
        }
    }

    /** "load and restore are not actions.": behind them there is nothing to undo; what comes then is remembered. */
    private static void notActions() {
        StringShed x = new StringShed();
        Check.write(x, "Sn1n2");
        x.load();
        Check.refused("load", IllegalStateException.class, x::undo);
        x.save(0);
        x.make(3);
        x.save(1);
        Check.is("save is none", 0, x::undo);
        x.make(4);
        x.restore(1);
        Check.refused("restore", IllegalStateException.class, x::undo);
        x.make(5);
        Check.is("make is one", 0, x::undo);
        Check.is("what was restored", 3, () -> x.part(2, 0));
        Check.refused("no more", IllegalStateException.class, x::undo);
        x.append('!');
        x.clearText();
        Check.refused("append and clearText", IllegalStateException.class, x::undo);
    }
}
