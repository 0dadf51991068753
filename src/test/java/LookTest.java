/** Promises 6 to 9: about, part, string, stringAt. */
public final class LookTest {
    /** A hook holds 0, 0 holds 1 and (frayed) 2, a hook holds 2; 3 and 4 hold one another; 5 is pinned. */
    private static final String SHED = "Sn3n4n5n6n7n8th000t0001t0002t0304t0403th202f0002p05";

    public static void main(String[] args) {
        about();
        sweptNumbers();
        part();
        string();
        stringAt();
        Check.end();
    }

    private static void abouts(String when, StringShed x, int... due) {
        for (int what = 0; what < due.length; what++) {
            int w = what;
            Check.is(when + ": about " + w, due[w], () -> x.about(w));
        }
    }

    private static void about() {
        StringShed x = Check.shed(SHED);
        abouts("shed", x, 6, 6, 0, 6, 1, 1, 4, 20, 0, 0, 0, 2);
        Check.refused("about -1", IllegalArgumentException.class, () -> x.about(-1));
        Check.refused("about 12", IllegalArgumentException.class, () -> x.about(12));
        x.begin();
        Check.is("a sweep goes on", 1, () -> x.about(8));
        StringShed loose = Check.shed("Sn1n2t0001t0100");
        Check.is("no depth without a held part", -9, () -> loose.about(11));
        loose.pin(1, true);
        Check.is("pinned, and one below", 1, () -> loose.about(11));
        loose.cut(1, 0);
        Check.is("pinned alone", 0, () -> loose.about(11));
        StringShed chain = new StringShed();
        for (int p = 0; p < 24; p++) {
            chain.make(1 + p % 9);
            chain.tie(p - 1, p, true);
        }
        Check.is("a chain of 24", 24, () -> chain.about(11));
        Check.is("the last of it", 24, () -> chain.part(23, 3));
        Check.is("its top", -1, () -> chain.way(23, 0));
        Check.is("its way", 22, () -> chain.way(23, 23));
        Check.is("its end", 23, () -> chain.way(23, 24));
        Check.is("behind its end", -9, () -> chain.way(23, 25));
        Check.is("its weight", 111, () -> chain.falls(-1, 0));
    }

    private static void sweptNumbers() {
        StringShed x = Check.shed(SHED);
        x.tie(3, 5, true);
        x.tie(5, 4, false);
        x.begin();
        for (int i = 0; i < 4; i++) {
            x.step();
        }
        Check.is("two are swept", -11, x::step);
        abouts("swept", x, 4, 6, 2, 4, 1, 1, 4, 20, 0, 1, 4, 2);
        x.begin();
        for (int i = 0; i < 4; i++) {
            x.step();
        }
        Check.is("none is swept", -9, x::step);
        abouts("swept again", x, 4, 6, 2, 4, 1, 1, 4, 20, 0, 2, 4, 2);
        Check.refused("swept part", IndexOutOfBoundsException.class, () -> x.part(3, 0));
        Check.refused("string to it", IndexOutOfBoundsException.class, () -> x.string(0, 3));
        Check.refused("string from it", IndexOutOfBoundsException.class, () -> x.string(4, 0));
        Check.is("strings close up", 402, () -> x.stringAt(2));
        Check.is("and keep their order", 102, () -> x.stringAt(3));
        Check.is("and their kind", 2, () -> x.string(0, 2));
        Check.is("no number comes again", 6, () -> x.make(1));
    }

    private static void parts(String when, StringShed x, int p, int... due) {
        for (int what = 0; what < due.length; what++) {
            int w = what;
            Check.is(when + ": part " + p + " " + w, due[w], () -> x.part(p, w));
        }
    }

    private static void part() {
        StringShed x = Check.shed(SHED);
        parts("shed", x, 0, 3, 0, 1, 1, 1, 2, -9);
        parts("shed", x, 1, 4, 0, 1, 2, 1, 0, -9);
        parts("shed", x, 2, 5, 0, 1, 1, 1, 0, -9);
        parts("shed", x, 3, 6, 0, 0, -9, 1, 1, -9);
        parts("shed", x, 5, 8, 1, 1, 0, 0, 0, -9);
        x.begin();
        Check.is("gray", 1, () -> x.part(0, 6));
        Check.is("white", 0, () -> x.part(1, 6));
        x.step();
        Check.is("black", 2, () -> x.part(0, 6));
        Check.is("gray by a step", 1, () -> x.part(1, 6));
        Check.refused("part -1", IndexOutOfBoundsException.class, () -> x.part(-1, 0));
        Check.refused("part 6", IndexOutOfBoundsException.class, () -> x.part(6, 0));
        Check.refused("part 24", IndexOutOfBoundsException.class, () -> x.part(24, 0));
        Check.refused("part 24 -1", IndexOutOfBoundsException.class, () -> x.part(24, -1));
        Check.refused("part 0 -1", IllegalArgumentException.class, () -> x.part(0, -1));
        Check.refused("part 0 7", IllegalArgumentException.class, () -> x.part(0, 7));
        StringShed both = Check.shed("Sn1n2th000p00t0001th001p01");
        Check.is("pinned as well as hung", 0, () -> both.part(0, 3));
        Check.is("two strings to it", 2, () -> both.part(1, 4));
    }

    private static void string() {
        StringShed x = Check.shed(SHED);
        Check.is("sound", 1, () -> x.string(-1, 0));
        Check.is("frayed", 2, () -> x.string(0, 2));
        Check.is("none", 0, () -> x.string(-2, 0));
        Check.is("not upwards", 0, () -> x.string(1, 0));
        Check.is("the same part", 0, () -> x.string(1, 1));
        Check.refused("hook 4", IndexOutOfBoundsException.class, () -> x.string(-5, 0));
        Check.refused("part 6 above", IndexOutOfBoundsException.class, () -> x.string(6, 0));
        Check.refused("part 6 below", IndexOutOfBoundsException.class, () -> x.string(0, 6));
        Check.refused("a hook below", IndexOutOfBoundsException.class, () -> x.string(0, -1));
        Check.refused("far above", IndexOutOfBoundsException.class, () -> x.string(Integer.MAX_VALUE, 0));
        Check.refused("far below", IndexOutOfBoundsException.class, () -> x.string(Integer.MIN_VALUE, 0));
    }

    private static void stringAt() {
        StringShed x = Check.shed(SHED);
        int[] due = {300, 401, 402, 704, 803, 102, -9, -9};
        for (int i = 0; i < due.length; i++) {
            int place = i;
            Check.is("stringAt " + place, due[place], () -> x.stringAt(place));
        }
        Check.is("stringAt 40", -9, () -> x.stringAt(40));
        Check.is("stringAt far", -9, () -> x.stringAt(Integer.MAX_VALUE));
        Check.refused("stringAt -1", IllegalArgumentException.class, () -> x.stringAt(-1));
        x.cut(0, 1);
        x.tie(0, 1, false);
        Check.is("tied anew it is the last", 401, () -> x.stringAt(5));
        Check.is("the others move up", 402, () -> x.stringAt(1));
        x.mend(0, 2);
        Check.is("mending moves nothing", 402, () -> x.stringAt(1));
        x.tie(-4, 4, true);
        Check.is("hook 3", 4, () -> x.stringAt(6));
    }
}
