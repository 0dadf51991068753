/** Promises 19 to 25: falls, cuts, heaviest, rings, takes, spares, way. */
public final class WouldBeTest {
    public static void main(String[] args) {
        falls();
        cuts();
        heaviest();
        rings();
        takes();
        spares();
        way();
        Check.end();
    }

    private static void falls() {
        StringShed x = Check.shed("Sn3n4n5n6th000t0001t0102th202t0203t0301");
        Check.is("one", 3, () -> x.falls(-1, 0));
        Check.is("held otherwise", 0, () -> x.falls(0, 1));
        Check.is("one and its ring", 6, () -> x.falls(2, 3));
        x.cut(-3, 2);
        Check.is("all", 18, () -> x.falls(-1, 0));
        Check.is("a ring holds nothing", 15, () -> x.falls(0, 1));
        Check.is("nothing is cut", 5, () -> x.about(3));
        x.pin(2, true);
        Check.is("pinned stays", 3, () -> x.falls(-1, 0));
        x.fray(2, 3);
        Check.is("frayed", 0, () -> x.falls(2, 3));
        Check.is("yet frayed", 2, () -> x.string(2, 3));
        Check.refused("no string", IndexOutOfBoundsException.class, () -> x.falls(-3, 2));
        Check.refused("no hook", IndexOutOfBoundsException.class, () -> x.falls(-5, 2));
        Check.refused("no part", IndexOutOfBoundsException.class, () -> x.falls(-1, 4));
    }

    private static void cuts() {
        StringShed x = Check.shed("Sn1n1n1n1n1th000th101t0002t0102t0203t0003");
        Check.is("one string", 1, () -> x.cuts(0));
        Check.is("two", 2, () -> x.cuts(2));
        Check.is("two by three ways", 2, () -> x.cuts(3));
        Check.is("not held", 0, () -> x.cuts(4));
        x.pin(0, true);
        Check.is("pinned", -9, () -> x.cuts(0));
        Check.is("by a pinned part", 2, () -> x.cuts(3));
        x.fray(1, 2);
        x.pin(0, false);
        Check.is("frayed ones do not count", 1, () -> x.cuts(3));
        Check.refused("no part", IndexOutOfBoundsException.class, () -> x.cuts(5));
        Check.refused("a hook", IndexOutOfBoundsException.class, () -> x.cuts(-1));
        StringShed pair = Check.shed("Sn1n1t0001t0100");
        Check.is("a ring is not held", 0, () -> pair.cuts(0));
        // The first way down, 0 1 3 5, must be taken back at 1 3 for two ways to be found.
        StringShed y = Check.shed("Sn1n1n1n1n1n1th000th002t0001t0103t0305t0104t0405t0203");
        Check.is("ways that cross", 2, () -> y.cuts(5));
        StringShed chain = chainFromBelow(24);
        Check.is("all are held", 24, () -> chain.about(6));
        Check.is("the end of a chain", 1, () -> chain.cuts(23));
        Check.is("all fall", 24, () -> chain.falls(-1, 0));
        StringShed hooks = Check.shed("Sn1th000th100th200th300");
        Check.is("four hooks", 4, () -> hooks.cuts(0));
    }

    private static void heaviest() {
        StringShed x = Check.shed("Sn3n4n7t0001th000th102th202");
        Check.is("most hangs on the hook", 300, x::heaviest);
        x.fray(-1, 0);
        Check.is("nothing falls: the first one", 401, x::heaviest);
        x.cut(-2, 2);
        Check.is("seven", 102, x::heaviest);
        x.mend(-1, 0);
        Check.is("both seven: the first one", 300, x::heaviest);
        x.cut(-1, 0);
        x.tie(-1, 0, true);
        Check.is("tied anew: the other one", 102, x::heaviest);
        StringShed none = Check.shed("Sn3");
        Check.is("without strings", -9, none::heaviest);
        StringShed frayed = Check.shed("Sn3n4th001fh001");
        Check.is("a frayed one", 301, frayed::heaviest);
    }

    private static void rings() {
        StringShed x = Check.shed("Sn1n1n1n1n1n1t0001t0102t0200t0203t0300t0405t0504f0504");
        Check.is("two rings by three parts", 4, x::rings);
        x.cut(3, 0);
        Check.is("below a ring, not on it", 3, x::rings);
        x.mend(5, 4);
        Check.is("two more", 5, x::rings);
        x.tie(-1, 4, true);
        Check.is("held rings do not count", 3, x::rings);
        x.pin(1, true);
        Check.is("pinned ones neither", 0, x::rings);
        x.pin(1, false);
        x.fray(0, 1);
        Check.is("frayed ones neither", 0, x::rings);
    }

    private static void takes() {
        StringShed x = Check.shed("Sn1n1n1n1th000t0001t0203t0302");
        Check.is("begun now", 2, x::takes);
        Check.is("none goes on yet", 0, () -> x.about(8));
        x.begin();
        x.step();
        x.cut(-1, 0);
        Check.is("what is gray stays", 2, x::takes);
        x.make(1);
        Check.is("what is new stays", 2, x::takes);
        x.tie(1, 2, true);
        Check.is("what will be gray stays", 0, x::takes);
        Check.is("nothing is taken yet", 5, () -> x.about(0));
        Check.is("nor a step", 1, () -> x.part(1, 6));
        StringShed empty = new StringShed();
        Check.is("empty", 0, empty::takes);
        StringShed most = chainFromBelow(23);
        most.make(1);
        Check.is("after 23 that stay", 1, most::takes);
        most.begin();
        Check.is("going on", 1, most::takes);
    }

    /** The strings are tied from below upwards. */
    private static StringShed chainFromBelow(int parts) {
        StringShed x = new StringShed();
        for (int p = 0; p < parts; p++) {
            x.make(1);
        }
        for (int p = parts - 1; p >= 0; p--) {
            x.tie(p - 1, p, true);
        }
        return x;
    }

    private static void spares() {
        StringShed x = Check.shed("Sn1n1n1n1th000t0001t0203t0302");
        Check.is("no sweep", 0, x::spares);
        x.begin();
        Check.is("none yet", 0, x::spares);
        x.step();
        x.cut(-1, 0);
        Check.is("both wrongly", 2, x::spares);
        x.make(1);
        Check.is("the new one too", 3, x::spares);
        x.pin(1, true);
        Check.is("the held one is right", 2, x::spares);
        x.tie(4, 3, true);
        Check.is("and what hangs there", 4, x::spares);
        Check.is("nothing happens", 5, () -> x.about(0));
        for (int i = 0; i < 3; i++) {
            x.step();
        }
        Check.is("the end", -9, x::step);
        Check.is("no sweep any more", 0, x::spares);
    }

    private static void ways(String when, StringShed x, int p, int... due) {
        for (int i = 0; i < due.length; i++) {
            int place = i;
            Check.is(when + ": way " + p + " " + place, due[place], () -> x.way(p, place));
        }
    }

    private static void way() {
        StringShed x = Check.shed("Sn1n1n1n1n1n1th101th002th302t0103t0203");
        ways("the one tied first", x, 3, -2, 1, 3, -9, -9);
        ways("its top", x, 2, -1, 2, -9);
        ways("not held", x, 4, -9, -9);
        x.cut(1, 3);
        ways("the other one", x, 3, -1, 2, 3, -9);
        x.tie(1, 3, true);
        ways("tied later", x, 3, -1, 2, 3, -9);
        x.fray(2, 3);
        ways("frayed", x, 3, -2, 1, 3, -9);
        x.mend(2, 3);
        x.pin(1, true);
        ways("pinned is shorter", x, 3, 1, 3, -9);
        ways("pinned", x, 1, 1, -9);
        x.pin(3, true);
        ways("pinned below", x, 3, 3, -9);
        Check.is("far", -9, () -> x.way(3, Integer.MAX_VALUE));
        Check.refused("no part", IndexOutOfBoundsException.class, () -> x.way(6, 0));
        Check.refused("no part, -1", IndexOutOfBoundsException.class, () -> x.way(-1, -1));
        Check.refused("place -1", IllegalArgumentException.class, () -> x.way(0, -1));
        Check.refused("place -1, not held", IllegalArgumentException.class, () -> x.way(4, -1));
        // The string at the part counts before the ones above it, though 0's string was tied first.
        StringShed y = Check.shed("Sn1n1n1th000t0102t0002th201th101");
        ways("from below", y, 2, -3, 1, 2, -9);
        // A longer way does not count, though its strings were tied first.
        StringShed z = Check.shed("Sn1n1n1th000t0001t0102th302");
        ways("short", z, 2, -4, 2, -9);
    }
}
