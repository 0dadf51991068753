/** The sentences of "Terms" about parts and strings, and about sweeps, each with what is just inside and just outside. */
public final class TermsTest {
    private static final Class<? extends RuntimeException> NOT_THERE = IndexOutOfBoundsException.class;
    private static final Class<? extends RuntimeException> NOT_NOW = IllegalStateException.class;

    public static void main(String[] args) {
        hooks();
        numbers();
        numbersOfAll();
        weights();
        hangsUntilSwept();
        sweptIsGone();
        aboveAndBelow();
        oneString();
        fortyStrings();
        held();
        depth();
        atFirstNoSweep();
        colours();
        firstGrays();
        endOfTheRow();
        step();
        theEnd();
        stringsAtSwept();
        newIsBlack();
        pinnedBecomesGray();
        tiedOrMendedBecomesGray();
        Check.end();
    }

    /** "There are 4 hooks, numbered from 0."; "-1 to -4 the hooks 0 to 3" */
    private static void hooks() {
        StringShed x = Check.shed("Sn1n2");
        for (int h = 0; h < 4; h++) {
            int above = -1 - h;
            int place = h;
            Check.is("tie at hook " + h, h + 1, () -> x.tie(above, 0, true));
            Check.is("its string", 1, () -> x.string(above, 0));
            Check.is("its number", 100 * (3 - place), () -> x.stringAt(place));
        }
        Check.refused("tie at hook 4", NOT_THERE, () -> x.tie(-5, 0, true));
        Check.refused("no hook 4", NOT_THERE, () -> x.string(-5, 0));
        Check.is("each is another one", 4, () -> x.cuts(0));
        for (int h = 3; h >= 0; h--) {
            int above = -1 - h;
            Check.is("hook " + h + " fray", h == 0 ? 1 : 0, () -> x.fray(above, 0));
        }
        Check.is("no hook holds it", 0, () -> x.part(0, 2));
        for (int h = 3; h >= 0; h--) {
            int above = -1 - h;
            Check.is("hook " + h + " mend", 1, () -> x.mend(above, 0));
            Check.is("hook " + h + " is on top", above, () -> x.way(0, 0));
            Check.is("hook " + h + " falls", 1, () -> x.falls(above, 0));
            Check.is("hook " + h + " cut", 1, () -> x.cut(above, 0));
            Check.is("hook " + h + " has none", 0, () -> x.string(above, 0));
        }
    }

    /** "Parts are numbered from 0 in the order in which they are made, at most 24 in all" */
    private static void numbers() {
        StringShed x = new StringShed();
        Check.refused("part 0, not made", NOT_THERE, () -> x.part(0, 0));
        for (int i = 0; i < 24; i++) {
            int p = i;
            Check.refused("part " + p + ", not made", NOT_THERE, () -> x.part(p, 0));
            Check.is("make", p, () -> x.make(1 + p % 7));
            Check.is("its weight", 1 + p % 7, () -> x.part(p, 0));
            Check.refused("part " + (p + 1) + ", not made", NOT_THERE, () -> x.part(p + 1, 0));
        }
        Check.is("24", 24, () -> x.about(1));
        Check.refused("the 25th", NOT_NOW, () -> x.make(1));
        Check.is("undo", 13, x::undo);
        Check.is("23", 23, () -> x.about(1));
        Check.is("the 24th again", 23, () -> x.make(9));
        Check.is("with its new weight", 9, () -> x.part(23, 0));
        Check.refused("the 25th again", NOT_NOW, () -> x.make(1));
    }

    /** "at most 24 in all": those that are swept count too, and no number comes again. */
    private static void numbersOfAll() {
        StringShed x = Check.shed("S" + "n1".repeat(12));
        x.pin(11, true);
        x.begin();
        x.step();
        Check.is("11 are swept", -20, x::step);
        for (int i = 12; i < 24; i++) {
            Check.is("make", i, () -> x.make(2));
        }
        Check.is("13 are there", 13, () -> x.about(0));
        Check.refused("24 were made", NOT_NOW, () -> x.make(2));
        x.begin();
        x.step();
        Check.is("the others are swept", -21, x::step);
        Check.is("one is there", 1, () -> x.about(0));
        Check.refused("24 were made, yet", NOT_NOW, () -> x.make(2));
        Check.is("24 were made, about", 24, () -> x.about(1));
        Check.is("23 were swept", 23, () -> x.about(2));
    }

    /** "and have a weight from 1 to 9" */
    private static void weights() {
        StringShed x = new StringShed();
        Check.refused("weight 0", IllegalArgumentException.class, () -> x.make(0));
        for (int weight = 1; weight <= 9; weight++) {
            int w = weight;
            Check.is("make", w - 1, () -> x.make(w));
            Check.is("weight", w, () -> x.part(w - 1, 0));
        }
        Check.refused("weight 10", IllegalArgumentException.class, () -> x.make(10));
        Check.is("nine parts", 9, () -> x.about(1));
    }

    /** "A part hangs in the shed until it is swept": not held is not gone. */
    private static void hangsUntilSwept() {
        StringShed x = Check.shed("Sn1n2th000t0001");
        Check.is("both are held no more", 2, () -> x.cut(-1, 0));
        Check.is("both are there", 2, () -> x.about(0));
        Check.is("weight", 2, () -> x.part(1, 0));
        Check.is("tie the loose", 2, () -> x.tie(1, 0, true));
        x.begin();
        Check.is("there in the sweep", 2, () -> x.about(0));
        Check.is("the end", -11, x::step);
        Check.is("gone", 0, () -> x.about(0));
        Check.is("with the strings", 0, () -> x.about(3));
    }

    /** "what follows is of parts that are there": a swept part is no part in any call. */
    private static void sweptIsGone() {
        StringShed x = swept();
        Check.is("part 0 is swept", 2, () -> x.about(0));
        for (int what = 0; what <= 6; what++) {
            int w = what;
            Check.refused("part 0 " + w, NOT_THERE, () -> x.part(0, w));
        }
        Check.refused("string from it", NOT_THERE, () -> x.string(0, 2));
        Check.refused("string to it", NOT_THERE, () -> x.string(1, 0));
        Check.refused("string to it from a hook", NOT_THERE, () -> x.string(-1, 0));
        Check.refused("tie it", NOT_THERE, () -> x.tie(-1, 0, true));
        Check.refused("tie to it", NOT_THERE, () -> x.tie(0, 1, true));
        Check.refused("pin it", NOT_THERE, () -> x.pin(0, true));
        Check.refused("unpin it", NOT_THERE, () -> x.pin(0, false));
        Check.refused("cuts", NOT_THERE, () -> x.cuts(0));
        Check.refused("way", NOT_THERE, () -> x.way(0, 0));
        Check.is("rings", 0, x::rings);
        Check.is("it fails in scripts", 0, () -> x.runScript(1, 70000));
        Check.is("its weight is gone", 5, () -> x.about(7));
    }

    /** Part 0 is swept, from which a string led to 2, and to which a frayed one led from 1. */
    private static StringShed swept() {
        StringShed x = Check.shed("Sn1n2n3p01p02t0100t0002");
        x.fray(1, 0);
        x.begin();
        x.step();
        x.step();
        x.step();
        return x;
    }

    /** "A string is tied to a hook or a part above and to another part below" */
    private static void aboveAndBelow() {
        StringShed x = Check.shed("Sn1n2");
        Check.is("hook and part", 1, () -> x.tie(-1, 0, true));
        Check.is("part and part", 2, () -> x.tie(0, 1, true));
        Check.refused("part and the same part", IllegalArgumentException.class, () -> x.tie(1, 1, true));
        Check.refused("part and hook", NOT_THERE, () -> x.tie(1, -1, true));
        Check.refused("hook and hook", NOT_THERE, () -> x.tie(-1, -2, true));
        Check.is("two strings", 2, () -> x.about(3));
    }

    /** "There is at most one string from the same thing above to the same part below" */
    private static void oneString() {
        StringShed x = Check.shed("Sn1n2n3");
        Check.is("one", 1, () -> x.tie(0, 1, true));
        Check.refused("a sound one more", NOT_NOW, () -> x.tie(0, 1, true));
        Check.refused("a frayed one more", NOT_NOW, () -> x.tie(0, 1, false));
        Check.is("the other way round", 2, () -> x.tie(1, 0, false));
        Check.refused("one more the other way round", NOT_NOW, () -> x.tie(1, 0, true));
        Check.is("to another part", 3, () -> x.tie(0, 2, true));
        Check.is("from another part", 4, () -> x.tie(2, 1, true));
        Check.is("from a hook", 5, () -> x.tie(-1, 1, true));
        Check.is("from another hook", 6, () -> x.tie(-2, 1, true));
        Check.is("cut one", 0, () -> x.cut(1, 0));
        Check.is("it may be tied again", 6, () -> x.tie(1, 0, true));
    }

    /** "there are at most 40 strings, in the order in which they were tied" */
    private static void fortyStrings() {
        StringShed x = Check.shed("S" + "n1".repeat(12));
        for (int i = 0; i < 40; i++) {
            int above = i % 4 - 4;
            int p = 10 - i / 4;
            int place = i;
            Check.is("behind the last", -9, () -> x.stringAt(place));
            Check.is("tie", place + 1, () -> x.tie(above, p, place % 3 != 0));
            Check.is("the last", 100 * (place % 4) + p, () -> x.stringAt(place));
        }
        Check.refused("the 41st", NOT_NOW, () -> x.tie(0, 11, true));
        Check.refused("the 41st, frayed", NOT_NOW, () -> x.tie(-1, 0, false));
        Check.is("behind the 40th", -9, () -> x.stringAt(40));
        x.cut(-4, 10);
        Check.is("behind the 39th", -9, () -> x.stringAt(39));
        Check.is("the second is the first", 110, () -> x.stringAt(0));
        Check.is("a 40th again", 40, () -> x.tie(0, 11, true));
        Check.is("as the last", 411, () -> x.stringAt(39));
        Check.refused("the 41st again", NOT_NOW, () -> x.tie(0, 10, true));
    }

    /** "A part is held if it is pinned, or if a sound string leads to it from a hook, or from a part that is held." */
    private static void held() {
        StringShed x = Check.shed("Sn1n1n1n1n1");
        Check.is("nothing", 0, () -> x.part(0, 2));
        x.tie(-1, 0, false);
        Check.is("a frayed string from a hook", 0, () -> x.part(0, 2));
        x.mend(-1, 0);
        Check.is("a sound one", 1, () -> x.part(0, 2));
        x.tie(0, 1, false);
        Check.is("a frayed string from a held part", 0, () -> x.part(1, 2));
        x.mend(0, 1);
        Check.is("a sound string from a held part", 1, () -> x.part(1, 2));
        x.tie(2, 3, true);
        Check.is("a sound string from a loose part", 0, () -> x.part(3, 2));
        x.tie(3, 2, true);
        Check.is("a ring", 0, () -> x.part(3, 2));
        x.tie(3, 0, true);
        Check.is("what holds a held part", 0, () -> x.part(3, 2));
        x.pin(2, true);
        Check.is("pinned", 1, () -> x.part(2, 2));
        Check.is("below a pinned part", 1, () -> x.part(3, 2));
        x.fray(2, 3);
        Check.is("above a pinned part", 0, () -> x.part(3, 2));
        x.pin(2, false);
        Check.is("not pinned any more", 0, () -> x.part(2, 2));
        Check.is("one that nothing touched", 0, () -> x.part(4, 2));
    }

    /** "the smallest number of sound strings, one below the other, by which it hangs"; "a pinned part has the depth 0" */
    private static void depth() {
        StringShed x = Check.shed("Sn1n1n1n1th000t0001t0102t0203");
        for (int i = 0; i < 4; i++) {
            int p = i;
            Check.is("depth of " + p, p + 1, () -> x.part(p, 3));
        }
        x.tie(0, 3, false);
        Check.is("a frayed string is no way", 4, () -> x.part(3, 3));
        x.mend(0, 3);
        Check.is("the smallest number", 2, () -> x.part(3, 3));
        x.pin(2, true);
        Check.is("pinned", 0, () -> x.part(2, 3));
        Check.is("from a pinned part", 1, () -> x.part(3, 3));
        Check.is("above it nothing changes", 2, () -> x.part(1, 3));
        x.pin(2, false);
        Check.is("hung again", 3, () -> x.part(2, 3));
        x.tie(-4, 2, true);
        Check.is("from another hook", 1, () -> x.part(2, 3));
        x.cut(-4, 2);
        x.cut(-1, 0);
        Check.is("not held", -9, () -> x.part(0, 3));
        Check.is("nor below", -9, () -> x.part(3, 3));
    }

    /** "A sweep goes on or not (at first not)." */
    private static void atFirstNoSweep() {
        StringShed x = new StringShed();
        Check.is("new", 0, () -> x.about(8));
        Check.refused("no step", NOT_NOW, x::step);
        x.make(1);
        Check.is("no colour", -9, () -> x.part(0, 6));
        Check.is("begin", 0, x::begin);
        Check.is("it goes on", 1, () -> x.about(8));
        Check.refused("no other one", NOT_NOW, x::begin);
        Check.is("the end", -10, x::step);
        Check.is("it goes on no more", 0, () -> x.about(8));
        Check.refused("no step any more", NOT_NOW, x::step);
        Check.is("another one", 0, x::begin);
        Check.is("its end, of nothing", -9, x::step);
        Check.is("two have ended", 2, () -> x.about(9));
    }

    private static void colour(String when, int due, StringShed x, int p) {
        Check.is(when + ": colour of " + p, due, () -> x.part(p, 6));
    }

    /** "While it does, each part is white, gray or black": NONE before and behind. */
    private static void colours() {
        StringShed x = Check.shed("Sn1n1n1th000t0001p02");
        colour("before", -9, x, 0);
        x.begin();
        colour("begun", 1, x, 0);
        colour("begun", 0, x, 1);
        colour("begun", 1, x, 2);
        x.step();
        colour("stepped", 2, x, 0);
        colour("stepped", 1, x, 1);
        x.step();
        x.step();
        colour("all", 2, x, 1);
        colour("all", 2, x, 2);
        Check.is("the end", -9, x::step);
        colour("behind", -9, x, 0);
        x.begin();
        colour("a second one", 0, x, 1);
        colour("a second one", 1, x, 0);
    }

    private static void row(String when, StringShed x, int... due) {
        for (int p : due) {
            Check.is(when + ": step", p, x::step);
        }
    }

    /** "those that are pinned, or hang directly from a hook by a sound string, become gray, in ascending order" */
    private static void firstGrays() {
        StringShed x = Check.shed("Sn1n1n1n1n1n1");
        x.tie(-4, 5, true);
        x.pin(4, true);
        x.tie(-2, 3, false);
        x.tie(4, 2, true);
        x.tie(-1, 1, true);
        x.tie(-2, 1, true);
        x.pin(1, true);
        x.pin(0, true);
        x.pin(0, false);
        Check.is("three", 3, x::begin);
        colour("unpinned", 0, x, 0);
        colour("pinned and hung, once", 1, x, 1);
        colour("below a pinned part", 0, x, 2);
        colour("at a frayed string", 0, x, 3);
        row("ascending", x, 1, 4, 5, 2, -11);
        StringShed all = Check.shed("S" + "n1".repeat(24) + "p23p00p12");
        for (int p = 1; p < 23; p++) {
            all.tie(-1 - p % 4, p, true);
        }
        Check.is("24 gray ones", 24, all::begin);
        for (int p = 0; p < 24; p++) {
            Check.is("ascending", p, all::step);
        }
        Check.is("none is swept", -9, all::step);
    }

    /** "A white part that becomes gray comes to the end of the row; others stay as they are." */
    private static void endOfTheRow() {
        StringShed x = Check.shed("Sn1n1n1n1n1p01p03p04b");
        x.tie(-1, 0, true);
        x.pin(1, true);
        x.tie(-1, 1, true);
        x.pin(0, true);
        row("the first ones", x, 1);
        x.pin(1, true);
        x.tie(-2, 1, true);
        x.tie(1, 1 + 1, true);
        x.tie(1, 3, true);
        colour("black stays black", 2, x, 1);
        colour("gray stays gray", 1, x, 3);
        row("nothing moves, nothing comes twice", x, 3, 4, 0, 2, -9);
    }

    /** "the first one of the row becomes black, and the parts at sound strings below it, in the order of these strings" */
    private static void step() {
        StringShed x = Check.shed("Sn1n1n1n1n1n1th000t0005t0003t0004f0004t0002t0302t0201");
        x.begin();
        row("one step", x, 0);
        colour("black", 2, x, 0);
        colour("gray", 1, x, 5);
        colour("gray", 1, x, 3);
        colour("at a frayed string", 0, x, 4);
        colour("two strings below", 0, x, 1);
        row("in the order of the strings", x, 5, 3, 2, 1, -10);
        Check.is("one was swept", 1, () -> x.about(2));
        StringShed ring = Check.shed("Sn1n1th000t0001t0100b");
        row("a ring ends", ring, 0, 1, -9);
    }

    /** "If there is none, the sweep ends: all white parts are swept" */
    private static void theEnd() {
        StringShed x = Check.shed("Sn1n1n1th000bs");
        x.make(5);
        x.fray(-1, 0);
        Check.is("two white ones", -11, x::step);
        Check.is("the black one is there, though not held", 0, () -> x.part(0, 2));
        Check.is("the new one too", 5, () -> x.part(3, 0));
        Check.refused("a white one is not", NOT_THERE, () -> x.part(1, 0));
        Check.refused("nor the other one", NOT_THERE, () -> x.part(2, 0));
        StringShed all = Check.shed("S" + "n9".repeat(24) + "b");
        Check.is("24 white ones", -33, all::step);
        Check.is("none is there", 0, () -> all.about(0));
        StringShed gray = Check.shed("Sn1n1th000b");
        Check.is("a gray one is left: no end", 0, gray::step);
        Check.is("it goes on", 1, () -> gray.about(8));
        Check.is("the end is a step of its own", -10, gray::step);
    }

    /** "with all strings at them" */
    private static void stringsAtSwept() {
        StringShed x = Check.shed("Sn1n1n1n1p00p01t0001t0002f0002t0203t0201t0100t0301f0301");
        x.begin();
        row("two that are pinned", x, 0, 1, -11);
        Check.is("two strings are left", 2, () -> x.about(3));
        Check.is("in their order", 401, () -> x.stringAt(0));
        Check.is("in their order", 500, () -> x.stringAt(1));
        Check.is("four went: from, to, between, frayed", 4, () -> x.about(10));
        Check.is("no frayed one is left", 0, () -> x.about(4));
        x.make(1);
        x.tie(-1, 4, false);
        x.begin();
        row("the second sweep", x, 0, 1, -10);
        Check.is("one more from a hook went", 5, () -> x.about(10));
        StringShed y = swept();
        Check.is("none is left", 0, () -> y.about(3));
        Check.is("both went", 2, () -> y.about(10));
    }

    /** "While a sweep goes on, a new part is black" */
    private static void newIsBlack() {
        StringShed x = new StringShed();
        x.make(1);
        colour("no sweep", -9, x, 0);
        x.begin();
        Check.is("make", 1, () -> x.make(1));
        colour("a new one", 2, x, 1);
        x.tie(-1, 1, true);
        x.pin(1, true);
        colour("it stays black", 2, x, 1);
        Check.is("it is not in the row, and not swept", -10, x::step);
        colour("behind the sweep", -9, x, 1);
        x.make(1);
        x.begin();
        colour("made between two sweeps", 0, x, 2);
        Check.is("undo begin", 7, x::undo);
        colour("no sweep any more", -9, x, 2);
    }

    /** "a part that is pinned becomes gray, if it is white" */
    private static void pinnedBecomesGray() {
        StringShed x = Check.shed("Sn1n1n1n1th000b");
        x.pin(3, true);
        colour("white: gray", 1, x, 3);
        x.pin(1, true);
        colour("white: gray", 1, x, 1);
        x.pin(1, false);
        colour("unpinned: gray yet", 1, x, 1);
        x.pin(2, false);
        colour("not pinned: white", 0, x, 2);
        x.pin(0, true);
        colour("gray stays", 1, x, 0);
        row("at the end of the row", x, 0, 3);
        x.pin(3, false);
        x.pin(3, true);
        colour("black stays", 2, x, 3);
        row("and does not come again", x, 1, -10);
        StringShed y = Check.shed("Sn1");
        y.pin(0, true);
        colour("without a sweep", -9, y, 0);
        Check.is("then it is among the first", 1, y::begin);
    }

    /** "so does a part below a string that is tied and sound, or that is mended, if what is above it is a hook or black" */
    private static void tiedOrMendedBecomesGray() {
        for (boolean mended : new boolean[] {false, true}) {
            for (int passing : new int[] {-1, -2, -3, -4, 1, 5}) {
                StringShed x = oneBlack();
                lead(x, passing, mended);
                colour("below " + passing, 1, x, 4);
                colour("not below " + passing, 0, x, 3);
                row("at the end of the row", x, 2, 4, -11);
            }
            for (int white : new int[] {0, 3}) {
                StringShed x = oneBlack();
                lead(x, white, mended);
                colour("below the white " + white, 0, x, 4);
                row("below the white " + white, x, 2, -12);
            }
            StringShed x = oneBlack();
            lead(x, 2, mended);
            colour("below a gray one", 0, x, 4);
            row("gray by a step only", x, 2, 4, -11);
        }
        tiedToOthers();
    }

    /** 1 is black, as 5, which is new; 2 is gray; 0, 3 and 4 are white. */
    private static StringShed oneBlack() {
        StringShed x = Check.shed("Sn1n1n1n1n1p01p02bs");
        x.make(1);
        return x;
    }

    private static void lead(StringShed x, int thing, boolean mended) {
        Check.is("tie", 1, () -> x.tie(thing, 4, !mended));
        if (mended) {
            colour("tied, but frayed", 0, x, 4);
            x.mend(thing, 4);
        }
    }

    private static void tiedToOthers() {
        StringShed x = Check.shed("Sn1n1n1p00p01bs");
        x.tie(-1, 0, true);
        colour("black stays", 2, x, 0);
        x.tie(0, 1, true);
        colour("gray stays", 1, x, 1);
        x.tie(0, 2, true);
        x.fray(0, 2);
        colour("frayed: gray yet", 1, x, 2);
        x.cut(0, 2);
        colour("cut: gray yet", 1, x, 2);
        row("all stay", x, 1, 2, -9);
        StringShed y = Check.shed("Sn1n1");
        y.tie(-1, 0, true);
        colour("without a sweep", -9, y, 0);
    }
}
