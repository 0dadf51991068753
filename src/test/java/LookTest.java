/** Promises 6 to 9: about, part, string, stringAt. */
public final class LookTest {
    /** A hook holds 0, 0 holds 1 and (frayed) 2, a hook holds 2; 3 and 4 hold one another; 5 is pinned. */
    private static final String SHED = "Sn3n4n5n6n7n8th000t0001t0002t0304t0403th202f0002p05";

    public static void main(String[] args) {
        about();
        aboutEach();
        aboutDepth();
        sweptNumbers();
        part();
        partInSweep();
        partOfMost();
        partWithStringsLess();
        string();
        stringEach();
        stringAt();
        stringAtEach();
        Check.end();
    }

    private static void abouts(String when, StringShed x, int... due) {
        for (int what = 0; what < due.length; what++) {
            int w = what;
            Check.is(when + ": about " + w, due[w], () -> x.about(w));
        }
    }

    private static void about() {
        StringShed x = Check.shed(SHED);
        abouts("shed", x, 6, 6, 0, 6, 1, 1, 4, 20, 0, 0, 0, 2);
        Check.refused("about -1", IllegalArgumentException.class, () -> x.about(-1));
        Check.refused("about 12", IllegalArgumentException.class, () -> x.about(12));
        x.begin();
        Check.is("a sweep goes on", 1, () -> x.about(8));
        StringShed loose = Check.shed("Sn1n2t0001t0100");
        Check.is("no depth without a held part", -9, () -> loose.about(11));
        loose.pin(1, true);
        Check.is("pinned, and one below", 1, () -> loose.about(11));
        loose.cut(1, 0);
        Check.is("pinned alone", 0, () -> loose.about(11));
        StringShed chain = new StringShed();
        for (int p = 0; p < 24; p++) {
            chain.make(1 + p % 9);
            chain.tie(p - 1, p, true);
        }
        Check.is("a chain of 24", 24, () -> chain.about(11));
        Check.is("the last of it", 24, () -> chain.part(23, 3));
        Check.is("its top", -1, () -> chain.way(23, 0));
        Check.is("its way", 22, () -> chain.way(23, 23));
        Check.is("its end", 23, () -> chain.way(23, 24));
        Check.is("behind its end", -9, () -> chain.way(23, 25));
        Check.is("its weight", 111, () -> chain.falls(-1, 0));
    }

    private static void sweptNumbers() {
        StringShed x = Check.shed(SHED);
        x.tie(3, 5, true);
        x.tie(5, 4, false);
        x.begin();
        for (int i = 0; i < 4; i++) {
            x.step();
        }
        Check.is("two are swept", -11, x::step);
        abouts("swept", x, 4, 6, 2, 4, 1, 1, 4, 20, 0, 1, 4, 2);
        x.begin();
        for (int i = 0; i < 4; i++) {
            x.step();
        }
        Check.is("none is swept", -9, x::step);
        abouts("swept again", x, 4, 6, 2, 4, 1, 1, 4, 20, 0, 2, 4, 2);
        Check.refused("swept part", IndexOutOfBoundsException.class, () -> x.part(3, 0));
        Check.refused("string to it", IndexOutOfBoundsException.class, () -> x.string(0, 3));
        Check.refused("string from it", IndexOutOfBoundsException.class, () -> x.string(4, 0));
        Check.is("strings close up", 402, () -> x.stringAt(2));
        Check.is("and keep their order", 102, () -> x.stringAt(3));
        Check.is("and their kind", 2, () -> x.string(0, 2));
        Check.is("no number comes again", 6, () -> x.make(1));
    }

    private static void parts(String when, StringShed x, int p, int... due) {
        for (int what = 0; what < due.length; what++) {
            int w = what;
            Check.is(when + ": part " + p + " " + w, due[w], () -> x.part(p, w));
        }
    }

    private static void part() {
        StringShed x = Check.shed(SHED);
        parts("shed", x, 0, 3, 0, 1, 1, 1, 2, -9);
        parts("shed", x, 1, 4, 0, 1, 2, 1, 0, -9);
        parts("shed", x, 2, 5, 0, 1, 1, 1, 0, -9);
        parts("shed", x, 3, 6, 0, 0, -9, 1, 1, -9);
        parts("shed", x, 5, 8, 1, 1, 0, 0, 0, -9);
        x.begin();
        Check.is("gray", 1, () -> x.part(0, 6));
        Check.is("white", 0, () -> x.part(1, 6));
        x.step();
        Check.is("black", 2, () -> x.part(0, 6));
        Check.is("gray by a step", 1, () -> x.part(1, 6));
        Check.refused("part -1", IndexOutOfBoundsException.class, () -> x.part(-1, 0));
        Check.refused("part 6", IndexOutOfBoundsException.class, () -> x.part(6, 0));
        Check.refused("part 24", IndexOutOfBoundsException.class, () -> x.part(24, 0));
        Check.refused("part 24 -1", IndexOutOfBoundsException.class, () -> x.part(24, -1));
        Check.refused("part 0 -1", IllegalArgumentException.class, () -> x.part(0, -1));
        Check.refused("part 0 7", IllegalArgumentException.class, () -> x.part(0, 7));
        StringShed both = Check.shed("Sn1n2th000p00t0001th001p01");
        Check.is("pinned as well as hung", 0, () -> both.part(0, 3));
        Check.is("two strings to it", 2, () -> both.part(1, 4));
    }

    private static void string() {
        StringShed x = Check.shed(SHED);
        Check.is("sound", 1, () -> x.string(-1, 0));
        Check.is("frayed", 2, () -> x.string(0, 2));
        Check.is("none", 0, () -> x.string(-2, 0));
        Check.is("not upwards", 0, () -> x.string(1, 0));
        Check.is("the same part", 0, () -> x.string(1, 1));
        Check.refused("hook 4", IndexOutOfBoundsException.class, () -> x.string(-5, 0));
        Check.refused("part 6 above", IndexOutOfBoundsException.class, () -> x.string(6, 0));
        Check.refused("part 6 below", IndexOutOfBoundsException.class, () -> x.string(0, 6));
        Check.refused("a hook below", IndexOutOfBoundsException.class, () -> x.string(0, -1));
        Check.refused("far above", IndexOutOfBoundsException.class, () -> x.string(Integer.MAX_VALUE, 0));
        Check.refused("far below", IndexOutOfBoundsException.class, () -> x.string(Integer.MIN_VALUE, 0));
    }

    private static void stringAt() {
        StringShed x = Check.shed(SHED);
        int[] due = {300, 401, 402, 704, 803, 102, -9, -9};
        for (int i = 0; i < due.length; i++) {
            int place = i;
            Check.is("stringAt " + place, due[place], () -> x.stringAt(place));
        }
        Check.is("stringAt 40", -9, () -> x.stringAt(40));
        Check.is("stringAt far", -9, () -> x.stringAt(Integer.MAX_VALUE));
        Check.refused("stringAt -1", IllegalArgumentException.class, () -> x.stringAt(-1));
        x.cut(0, 1);
        x.tie(0, 1, false);
        Check.is("tied anew it is the last", 401, () -> x.stringAt(5));
        Check.is("the others move up", 402, () -> x.stringAt(1));
        x.mend(0, 2);
        Check.is("mending moves nothing", 402, () -> x.stringAt(1));
        x.tie(-4, 4, true);
        Check.is("hook 3", 4, () -> x.stringAt(6));
    }

    /** Each number of about by itself: what makes it differ, and what does not. */
    private static void aboutEach() {
        StringShed x = new StringShed();
        x.make(9);
        abouts("a part", x, 1, 1, 0, 0, 0, 0, 0, 0, 0, 0, 0, -9);
        x.make(5);
        x.tie(0, 1, true);
        abouts("a string between loose parts", x, 2, 2, 0, 1, 0, 0, 0, 0, 0, 0, 0, -9);
        x.tie(-1, 0, false);
        abouts("a frayed one at a hook", x, 2, 2, 0, 2, 1, 0, 0, 0, 0, 0, 0, -9);
        x.pin(1, true);
        abouts("pinned below", x, 2, 2, 0, 2, 1, 1, 1, 5, 0, 0, 0, 0);
        x.mend(-1, 0);
        abouts("mended", x, 2, 2, 0, 2, 0, 1, 2, 14, 0, 0, 0, 1);
        x.pin(1, false);
        abouts("unpinned", x, 2, 2, 0, 2, 0, 0, 2, 14, 0, 0, 0, 2);
        x.begin();
        abouts("begun", x, 2, 2, 0, 2, 0, 0, 2, 14, 1, 0, 0, 2);
        x.fray(-1, 0);
        x.step();
        x.cut(0, 1);
        abouts("a gray part is not swept", x, 2, 2, 0, 1, 1, 0, 0, 0, 1, 0, 0, -9);
        x.step();
        x.step();
        abouts("ended, none swept", x, 2, 2, 0, 1, 1, 0, 0, 0, 0, 1, 0, -9);
        x.begin();
        x.step();
        abouts("ended, all swept", x, 0, 2, 2, 0, 0, 0, 0, 0, 0, 2, 1, -9);
        x.make(1);
        abouts("a new one", x, 1, 3, 2, 0, 0, 0, 0, 0, 0, 2, 1, -9);
        StringShed most = Check.shed("S" + "n9".repeat(24));
        for (int p = 0; p < 24; p++) {
            most.pin(p, true);
        }
        abouts("24 pinned", most, 24, 24, 0, 0, 0, 24, 24, 216, 0, 0, 0, 0);
    }

    /** "the greatest depth of a held part, NONE without one": a loose part and a longer way do not count. */
    private static void aboutDepth() {
        StringShed x = new StringShed();
        Check.is("without a part", -9, () -> x.about(11));
        x.make(1);
        Check.is("without a held part", -9, () -> x.about(11));
        x.pin(0, true);
        Check.is("a pinned part alone", 0, () -> x.about(11));
        x.make(1);
        x.make(1);
        x.make(1);
        x.tie(1, 2, true);
        x.tie(2, 3, true);
        Check.is("a loose chain", 0, () -> x.about(11));
        x.tie(-1, 1, true);
        Check.is("it hangs", 3, () -> x.about(11));
        x.tie(-1, 3, true);
        Check.is("a shorter way", 2, () -> x.about(11));
        x.fray(-1, 1);
        Check.is("the pinned and one that hangs", 1, () -> x.about(11));
        x.begin();
        for (int i = 0; i < 3; i++) {
            x.step();
        }
        Check.is("behind a sweep", 1, () -> x.about(11));
    }

    /** "0 if it is white, 1 gray, 2 black, NONE if no sweep goes on" */
    private static void partInSweep() {
        StringShed x = Check.shed("Sn1n1th000");
        Check.is("no sweep", -9, () -> x.part(0, 6));
        x.begin();
        Check.is("gray", 1, () -> x.part(0, 6));
        Check.is("white", 0, () -> x.part(1, 6));
        x.step();
        Check.is("black", 2, () -> x.part(0, 6));
        x.step();
        Check.is("no sweep any more", -9, () -> x.part(0, 6));
    }

    /** As many strings as can be at one part: 4 from hooks and 23 from parts; 23 to parts. */
    private static void partOfMost() {
        StringShed x = Check.shed("S" + "n1".repeat(24));
        parts("nothing", x, 23, 1, 0, 0, -9, 0, 0, -9);
        for (int above = -4; above < 23; above++) {
            x.tie(above, 23, above != 5);
        }
        parts("27 above, one of them frayed", x, 23, 1, 0, 1, 1, 26, 0, -9);
        x.mend(5, 23);
        parts("27 above", x, 23, 1, 0, 1, 1, 27, 0, -9);
        parts("one below", x, 5, 1, 0, 0, -9, 0, 1, -9);
        StringShed y = Check.shed("S" + "n1".repeat(24));
        for (int p = 1; p < 24; p++) {
            y.tie(0, p, p % 2 == 0);
        }
        parts("23 below, sound or not", y, 0, 1, 0, 0, -9, 0, 23, -9);
        y.tie(1, 2, true);
        parts("directly below only", y, 0, 1, 0, 0, -9, 0, 23, -9);
    }

    /** "the sound strings that lead to it"; "the strings below it, sound or not": those that are there, not those that were. */
    private static void partWithStringsLess() {
        StringShed x = Check.shed("S" + "n1".repeat(24));
        StringShed y = Check.shed("S" + "n1".repeat(24));
        for (int p = 0; p < 23; p++) {
            x.tie(p, 23, true);
            y.tie(23, p, p % 2 == 0);
        }
        for (int p = 0; p < 23; p++) {
            int left = 22 - p;
            x.cut(p, 23);
            Check.is("strings to it, the first one cut", left, () -> x.part(23, 4));
            Check.is("strings below the one above", 0, () -> x.part(22 - left, 5));
            y.cut(23, left);
            Check.is("strings below it, the last one cut", left, () -> y.part(23, 5));
            Check.is("strings to the one below", 0, () -> y.part(left, 4));
        }
        StringShed swept = Check.shed("Sn1n1n1n1p02p03t0002t0203t0103t0302");
        swept.begin();
        for (int i = 0; i < 3; i++) {
            swept.step();
        }
        parts("two strings went", swept, 2, 1, 1, 1, 0, 1, 1, -9);
        parts("two strings went", swept, 3, 1, 1, 1, 0, 1, 1, -9);
    }

    /** "Returns 0 if there is none, 1 if it is sound, 2 if it is frayed.": from each thing to each part. */
    private static void stringEach() {
        for (int above = -5; above <= 24; above++) {
            int thing = above;
            StringShed x = Check.shed("S" + "n1".repeat(24));
            if (above == -5 || above == 24) {
                Check.refused("string from " + above, IndexOutOfBoundsException.class, () -> x.string(thing, 0));
                continue;
            }
            int p = above == 23 ? 0 : 23;
            Check.is("none from " + above, 0, () -> x.string(thing, p));
            x.tie(above, p, true);
            Check.is("sound from " + above, 1, () -> x.string(thing, p));
            x.fray(above, p);
            Check.is("frayed from " + above, 2, () -> x.string(thing, p));
            x.mend(above, p);
            Check.is("mended from " + above, 1, () -> x.string(thing, p));
            Check.is("no other one", 0, () -> x.string(thing, 11));
            if (above >= 0) {
                Check.is("not upwards to " + above, 0, () -> x.string(p, thing));
                Check.is("none to itself", 0, () -> x.string(thing, thing));
            }
            x.cut(above, p);
            Check.is("cut from " + above, 0, () -> x.string(thing, p));
        }
        StringShed one = Check.shed("Sn1");
        Check.is("part 0 alone", 0, () -> one.string(-1, 0));
        Check.refused("part 1", IndexOutOfBoundsException.class, () -> one.string(-1, 1));
        Check.refused("part -1", IndexOutOfBoundsException.class, () -> one.string(-1, -1));
    }

    /** "100 * (4 + (the thing above)) + (the part below); NONE if there are not so many." */
    private static void stringAtEach() {
        StringShed x = Check.shed("S" + "n1".repeat(24));
        Check.is("without a string", -9, () -> x.stringAt(0));
        x.tie(-4, 0, true);
        Check.is("from hook 3 to part 0", 0, () -> x.stringAt(0));
        Check.is("behind it", -9, () -> x.stringAt(1));
        x.tie(-1, 23, false);
        Check.is("frayed or not", 323, () -> x.stringAt(1));
        x.tie(0, 23, true);
        x.tie(23, 0, true);
        x.tie(23, 22, true);
        Check.is("from part 0", 423, () -> x.stringAt(2));
        Check.is("to part 0", 2700, () -> x.stringAt(3));
        Check.is("the greatest", 2722, () -> x.stringAt(4));
        Check.is("behind the last", -9, () -> x.stringAt(5));
        x.cut(-4, 0);
        Check.is("behind the last, one less", -9, () -> x.stringAt(4));
        Check.is("the last", 2722, () -> x.stringAt(3));
        StringShed full = Sheds.full();
        Check.is("the first of 40", 1411, () -> full.stringAt(0));
        Check.is("the last of 40", 301, () -> full.stringAt(39));
        Check.is("behind 40", -9, () -> full.stringAt(40));
        Check.is("far behind", -9, () -> full.stringAt(1 << 16));
    }
}
