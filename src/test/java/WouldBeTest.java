/** Promises 19 to 25: falls, cuts, heaviest, rings, takes, spares, way. */
public final class WouldBeTest {
    public static void main(String[] args) {
        falls();
        fallsFromNoneToAll();
        cuts();
        cutsOfMost();
        cutsAtTheEndOfAll();
        cutsAskedAgain();
        heaviest();
        heaviestAmongSeveral();
        rings();
        ringsOfMost();
        takes();
        takesFromNoneToAll();
        spares();
        sparesFromNoneToAll();
        way();
        wayToItsEnd();
        wayAmongSeveral();
        Check.end();
    }

    private static void falls() {
        StringShed x = Check.shed("Sn3n4n5n6th000t0001t0102th202t0203t0301");
        Check.is("one", 3, () -> x.falls(-1, 0));
        Check.is("held otherwise", 0, () -> x.falls(0, 1));
        Check.is("one and its ring", 6, () -> x.falls(2, 3));
        x.cut(-3, 2);
        Check.is("all", 18, () -> x.falls(-1, 0));
        Check.is("a ring holds nothing", 15, () -> x.falls(0, 1));
        Check.is("nothing is cut", 5, () -> x.about(3));
        x.pin(2, true);
        Check.is("pinned stays", 3, () -> x.falls(-1, 0));
        x.fray(2, 3);
        Check.is("frayed", 0, () -> x.falls(2, 3));
        Check.is("yet frayed", 2, () -> x.string(2, 3));
        Check.refused("no string", IndexOutOfBoundsException.class, () -> x.falls(-3, 2));
        Check.refused("no hook", IndexOutOfBoundsException.class, () -> x.falls(-5, 2));
        Check.refused("no part", IndexOutOfBoundsException.class, () -> x.falls(-1, 4));
    }

    private static void cuts() {
        StringShed x = Check.shed("Sn1n1n1n1n1th000th101t0002t0102t0203t0003");
        Check.is("one string", 1, () -> x.cuts(0));
        Check.is("two", 2, () -> x.cuts(2));
        Check.is("two by three ways", 2, () -> x.cuts(3));
        Check.is("not held", 0, () -> x.cuts(4));
        x.pin(0, true);
        Check.is("pinned", -9, () -> x.cuts(0));
        Check.is("by a pinned part", 2, () -> x.cuts(3));
        x.fray(1, 2);
        x.pin(0, false);
        Check.is("frayed ones do not count", 1, () -> x.cuts(3));
        Check.refused("no part", IndexOutOfBoundsException.class, () -> x.cuts(5));
        Check.refused("a hook", IndexOutOfBoundsException.class, () -> x.cuts(-1));
        StringShed pair = Check.shed("Sn1n1t0001t0100");
        Check.is("a ring is not held", 0, () -> pair.cuts(0));
        // The first way down, 0 1 3 5, must be taken back at 1 3 for two ways to be found.
        StringShed y = Check.shed("Sn1n1n1n1n1n1th000th002t0001t0103t0305t0104t0405t0203");
        Check.is("ways that cross", 2, () -> y.cuts(5));
        StringShed chain = chainFromBelow(24);
        Check.is("all are held", 24, () -> chain.about(6));
        Check.is("the end of a chain", 1, () -> chain.cuts(23));
        Check.is("all fall", 24, () -> chain.falls(-1, 0));
        StringShed hooks = Check.shed("Sn1th000th100th200th300");
        Check.is("four hooks", 4, () -> hooks.cuts(0));
    }

    private static void heaviest() {
        StringShed x = Check.shed("Sn3n4n7t0001th000th102th202");
        Check.is("most hangs on the hook", 300, x::heaviest);
        x.fray(-1, 0);
        Check.is("nothing falls: the first one", 401, x::heaviest);
        x.cut(-2, 2);
        Check.is("seven", 102, x::heaviest);
        x.mend(-1, 0);
        Check.is("both seven: the first one", 300, x::heaviest);
        x.cut(-1, 0);
        x.tie(-1, 0, true);
        Check.is("tied anew: the other one", 102, x::heaviest);
        StringShed none = Check.shed("Sn3");
        Check.is("without strings", -9, none::heaviest);
        StringShed frayed = Check.shed("Sn3n4th001fh001");
        Check.is("a frayed one", 301, frayed::heaviest);
    }

    private static void rings() {
        StringShed x = Check.shed("Sn1n1n1n1n1n1t0001t0102t0200t0203t0300t0405t0504f0504");
        Check.is("two rings by three parts", 4, x::rings);
        x.cut(3, 0);
        Check.is("below a ring, not on it", 3, x::rings);
        x.mend(5, 4);
        Check.is("two more", 5, x::rings);
        x.tie(-1, 4, true);
        Check.is("held rings do not count", 3, x::rings);
        x.pin(1, true);
        Check.is("pinned ones neither", 0, x::rings);
        x.pin(1, false);
        x.fray(0, 1);
        Check.is("frayed ones neither", 0, x::rings);
    }

    private static void takes() {
        StringShed x = Check.shed("Sn1n1n1n1th000t0001t0203t0302");
        Check.is("begun now", 2, x::takes);
        Check.is("none goes on yet", 0, () -> x.about(8));
        x.begin();
        x.step();
        x.cut(-1, 0);
        Check.is("what is gray stays", 2, x::takes);
        x.make(1);
        Check.is("what is new stays", 2, x::takes);
        x.tie(1, 2, true);
        Check.is("what will be gray stays", 0, x::takes);
        Check.is("nothing is taken yet", 5, () -> x.about(0));
        Check.is("nor a step", 1, () -> x.part(1, 6));
        StringShed empty = new StringShed();
        Check.is("empty", 0, empty::takes);
        StringShed most = chainFromBelow(23);
        most.make(1);
        Check.is("after 23 that stay", 1, most::takes);
        most.begin();
        Check.is("going on", 1, most::takes);
    }

    /** The strings are tied from below upwards. */
    private static StringShed chainFromBelow(int parts) {
        StringShed x = new StringShed();
        for (int p = 0; p < parts; p++) {
            x.make(1);
        }
        for (int p = parts - 1; p >= 0; p--) {
            x.tie(p - 1, p, true);
        }
        return x;
    }

    private static void spares() {
        StringShed x = Check.shed("Sn1n1n1n1th000t0001t0203t0302");
        Check.is("no sweep", 0, x::spares);
        x.begin();
        Check.is("none yet", 0, x::spares);
        x.step();
        x.cut(-1, 0);
        Check.is("both wrongly", 2, x::spares);
        x.make(1);
        Check.is("the new one too", 3, x::spares);
        x.pin(1, true);
        Check.is("the held one is right", 2, x::spares);
        x.tie(4, 3, true);
        Check.is("and what hangs there", 4, x::spares);
        Check.is("nothing happens", 5, () -> x.about(0));
        for (int i = 0; i < 3; i++) {
            x.step();
        }
        Check.is("the end", -9, x::step);
        Check.is("no sweep any more", 0, x::spares);
    }

    private static void ways(String when, StringShed x, int p, int... due) {
        for (int i = 0; i < due.length; i++) {
            int place = i;
            Check.is(when + ": way " + p + " " + place, due[place], () -> x.way(p, place));
        }
    }

    private static void way() {
        StringShed x = Check.shed("Sn1n1n1n1n1n1th101th002th302t0103t0203");
        ways("the one tied first", x, 3, -2, 1, 3, -9, -9);
        ways("its top", x, 2, -1, 2, -9);
        ways("not held", x, 4, -9, -9);
        x.cut(1, 3);
        ways("the other one", x, 3, -1, 2, 3, -9);
        x.tie(1, 3, true);
        ways("tied later", x, 3, -1, 2, 3, -9);
        x.fray(2, 3);
        ways("frayed", x, 3, -2, 1, 3, -9);
        x.mend(2, 3);
        x.pin(1, true);
        ways("pinned is shorter", x, 3, 1, 3, -9);
        ways("pinned", x, 1, 1, -9);
        x.pin(3, true);
        ways("pinned below", x, 3, 3, -9);
        Check.is("far", -9, () -> x.way(3, Integer.MAX_VALUE));
        Check.refused("no part", IndexOutOfBoundsException.class, () -> x.way(6, 0));
        Check.refused("no part, -1", IndexOutOfBoundsException.class, () -> x.way(-1, -1));
        Check.refused("place -1", IllegalArgumentException.class, () -> x.way(0, -1));
        Check.refused("place -1, not held", IllegalArgumentException.class, () -> x.way(4, -1));
        // The string at the part counts before the ones above it, though 0's string was tied first.
        StringShed y = Check.shed("Sn1n1n1th000t0102t0002th201th101");
        ways("from below", y, 2, -3, 1, 2, -9);
        // A longer way does not count, though its strings were tied first.
        StringShed z = Check.shed("Sn1n1n1th000t0001t0102th302");
        ways("short", z, 2, -4, 2, -9);
    }

    /** "(0, if it is frayed)", and from no weight to that of 24 parts. */
    private static void fallsFromNoneToAll() {
        StringShed x = Check.shed("S" + "n9".repeat(24));
        for (int p = 0; p < 24; p++) {
            x.tie(p - 1, p, true);
        }
        for (int p = 0; p < 24; p++) {
            int below = p;
            Check.is("falls above " + p, 9 * (24 - p), () -> x.falls(below - 1, below));
        }
        x.fray(-1, 0);
        Check.is("frayed", 0, () -> x.falls(-1, 0));
        Check.is("below what is not held", 0, () -> x.falls(0, 1));
        x.pin(12, true);
        Check.is("above a pinned one", 0, () -> x.falls(11, 12));
        Check.is("below it", 99, () -> x.falls(12, 13));
        x.mend(-1, 0);
        Check.is("down to the pinned one", 108, () -> x.falls(-1, 0));
        x.tie(-4, 6, true);
        Check.is("down to what hangs otherwise", 54, () -> x.falls(-1, 0));
        x.fray(-4, 6);
        Check.is("a frayed one holds nothing", 108, () -> x.falls(-1, 0));
    }

    /** "(0 if it is not held); NONE if it is pinned", and from one to the 27 strings that can be tied to a part. */
    private static void cutsOfMost() {
        StringShed x = Check.shed("S" + "n1".repeat(24));
        Check.is("not held", 0, () -> x.cuts(23));
        for (int hook = 1; hook <= 4; hook++) {
            x.tie(-hook, 23, true);
            Check.is("strings from hooks", hook, () -> x.cuts(23));
        }
        for (int p = 0; p < 23; p++) {
            int q = p;
            x.tie(p, 23, true);
            Check.is("one more, from what is not held", 4 + p, () -> x.cuts(23));
            x.pin(p, true);
            Check.is("from what is pinned", 5 + p, () -> x.cuts(23));
            Check.is("pinned", -9, () -> x.cuts(q));
        }
        x.pin(22, false);
        x.tie(0, 22, true);
        x.tie(1, 22, true);
        Check.is("one string below two", 27, () -> x.cuts(23));
        Check.is("the two", 2, () -> x.cuts(22));
        x.fray(22, 23);
        Check.is("a frayed one does not count", 26, () -> x.cuts(23));
        x.pin(23, true);
        Check.is("pinned as well", -9, () -> x.cuts(23));
        x.pin(23, false);
        Check.is("and not any more", 26, () -> x.cuts(23));
        StringShed narrow = Check.shed("Sn1n1n1n1th000th100th200t0001t0002t0103t0203");
        Check.is("three at the top, two below", 2, () -> narrow.cuts(3));
        narrow.cut(-1, 0);
        narrow.cut(-2, 0);
        Check.is("one at the top", 1, () -> narrow.cuts(3));
        narrow.cut(-3, 0);
        Check.is("none", 0, () -> narrow.cuts(3));
    }

    /** A way through all 24 parts: what it goes by counts once, the string at the hook too. */
    private static void cutsAtTheEndOfAll() {
        StringShed x = Check.shed("S" + "n1".repeat(24));
        for (int p = 0; p < 24; p++) {
            x.tie(p - 1, p, true);
        }
        Check.is("a chain", 1, () -> x.cuts(23));
        x.tie(0, 23, true);
        Check.is("and a short cut below the hook's string", 1, () -> x.cuts(23));
        x.tie(-2, 22, true);
        Check.is("and another hook", 2, () -> x.cuts(23));
        x.tie(-3, 0, true);
        Check.is("and a third one, but two strings below", 2, () -> x.cuts(23));
        x.tie(1, 23, true);
        Check.is("and three", 3, () -> x.cuts(23));
    }

    /** What was found before does not count when the strings have become others. */
    private static void cutsAskedAgain() {
        StringShed x = Check.shed("Sn1n1n1th000t0001t0002t0102");
        Check.is("one at the hook", 1, () -> x.cuts(2));
        x.pin(1, true);
        Check.is("two", 2, () -> x.cuts(2));
        x.fray(-1, 0);
        Check.is("from the pinned part alone", 1, () -> x.cuts(2));
        x.pin(1, false);
        Check.is("not held", 0, () -> x.cuts(2));
        x.pin(0, true);
        Check.is("by two ways", 2, () -> x.cuts(2));
    }

    /** "among several the one that was tied first; NONE without strings" */
    private static void heaviestAmongSeveral() {
        StringShed x = Check.shed("Sn9n9n9n9");
        Check.is("without strings", -9, x::heaviest);
        x.tie(2, 3, true);
        Check.is("one that holds nothing", 603, x::heaviest);
        x.tie(-4, 2, false);
        x.tie(-3, 1, true);
        Check.is("one that holds nine", 101, x::heaviest);
        x.tie(-2, 0, true);
        Check.is("two that do", 101, x::heaviest);
        x.tie(-3, 0, true);
        x.cut(-2, 0);
        Check.is("two, though a number is smaller", 101, x::heaviest);
        x.mend(-4, 2);
        Check.is("eighteen", 2, x::heaviest);
        x.tie(-4, 1, true);
        x.tie(-4, 3, true);
        Check.is("none but two, the one tied first", 2, x::heaviest);
        x.cut(-4, 2);
        Check.is("the others", 100, x::heaviest);
        x.cut(-3, 0);
        x.cut(-3, 1);
        Check.is("the last ones", 1, x::heaviest);
        x.cut(-4, 1);
        x.cut(2, 3);
        Check.is("one string", 3, x::heaviest);
        x.fray(-4, 3);
        Check.is("one frayed string", 3, x::heaviest);
        x.cut(-4, 3);
        Check.is("no string any more", -9, x::heaviest);
        StringShed full = Sheds.full();
        Check.is("the last of 40, on which most hangs", 301, full::heaviest);
    }

    /** "not held, but on a ring of sound strings (from the part, one below the other, back to it)": from 2 parts to 24. */
    private static void ringsOfMost() {
        for (int n = 1; n <= 24; n++) {
            StringShed x = Check.shed("S" + "n1".repeat(n));
            for (int p = 0; p + 1 < n; p++) {
                x.tie(p, p + 1, true);
            }
            Check.is("a chain of " + n, 0, x::rings);
            if (n > 1) {
                int size = n;
                x.tie(n - 1, 0, false);
                Check.is("a frayed ring of " + n, 0, x::rings);
                x.mend(n - 1, 0);
                Check.is("a ring of " + n, size, x::rings);
                x.pin(n / 2, true);
                Check.is("held", 0, x::rings);
            }
        }
        StringShed two = Check.shed("Sn1n1n1n1n1n1n1t0001t0100t0102t0203t0304t0403t0405t0600");
        Check.is("two rings; above, between and below them", 4, two::rings);
        two.tie(-1, 3, true);
        Check.is("the lower one hangs", 2, two::rings);
        two.tie(5, 6, true);
        Check.is("a held part leads to the upper one", 0, two::rings);
    }

    /** "how many parts would be swept": none of those that hang, up to all 24; "(begun now, if none goes on)". */
    private static void takesFromNoneToAll() {
        for (int n = 0; n <= 24; n++) {
            StringShed x = chainFromBelow(24);
            int left = n;
            if (n > 0) {
                x.cut(23 - n, 24 - n);
            }
            Check.is("begun now, of " + n, left, x::takes);
            x.begin();
            Check.is("begun, of " + n, left, x::takes);
        }
        StringShed x = Check.shed("Sn1n1n1p00t0001");
        x.begin();
        x.step();
        x.step();
        Check.is("before the end", 1, x::takes);
        x.make(1);
        x.fray(0, 1);
        Check.is("black ones are not taken", 1, x::takes);
        x.step();
        Check.is("behind the end, another sweep", 2, x::takes);
    }

    /** "how many parts that are not held now would not be swept ...; 0 if none goes on" */
    private static void sparesFromNoneToAll() {
        for (int n = 0; n <= 24; n++) {
            StringShed x = chainFromBelow(24);
            Check.is("no sweep", 0, x::spares);
            x.begin();
            for (int i = 0; i < n; i++) {
                x.step();
            }
            Check.is("all hang", 0, x::spares);
            x.fray(-1, 0);
            Check.is("all are spared wrongly, after " + n, 24, x::spares);
        }
        StringShed x = Check.shed("Sn1n1n1p00");
        x.begin();
        x.make(1);
        Check.is("one that is new", 1, x::spares);
        x.tie(3, 2, true);
        Check.is("and what hangs there", 2, x::spares);
        x.tie(-1, 3, true);
        Check.is("held now", 0, x::spares);
        x.pin(0, false);
        Check.is("gray, not held", 1, x::spares);
        x.step();
        Check.is("black, not held", 1, x::spares);
        x.step();
        x.step();
        Check.is("behind the end", 0, x::spares);
        Check.is("it is there, and not held", 0, () -> x.part(0, 2));
    }

    /** "which thing, from 0"; "NONE if there are not so many, or if it is not held" */
    private static void wayToItsEnd() {
        StringShed x = chainFromBelow(24);
        for (int p = 0; p < 24; p++) {
            int q = p;
            Check.is("the hook", -1, () -> x.way(q, 0));
            Check.is("the last but one", q - 1, () -> x.way(q, q));
            Check.is("the part", q, () -> x.way(q, q + 1));
            Check.is("behind it", -9, () -> x.way(q, q + 2));
        }
        x.pin(12, true);
        Check.is("above the pinned part", -1, () -> x.way(11, 0));
        Check.is("the pinned part", 12, () -> x.way(12, 0));
        Check.is("behind it", -9, () -> x.way(12, 1));
        Check.is("from the pinned part", 12, () -> x.way(23, 0));
        Check.is("to the last", 23, () -> x.way(23, 11));
        Check.is("behind it", -9, () -> x.way(23, 12));
        x.fray(22, 23);
        Check.is("not held", -9, () -> x.way(23, 0));
    }

    /** "the one whose string that is tied to the part was tied first, then the one above it, and so on" */
    private static void wayAmongSeveral() {
        StringShed x = Check.shed("Sn1n1n1n1n1n1t0304t0204t0103t0003t0102t0002th301th201th100th000t0405");
        ways("all first", x, 5, -4, 1, 3, 4, 5, -9);
        x.cut(3, 4);
        ways("the second to 4", x, 5, -4, 1, 2, 4, 5, -9);
        x.cut(1, 2);
        ways("the second to 2", x, 5, -2, 0, 2, 4, 5, -9);
        x.cut(-2, 0);
        ways("the second to 0", x, 5, -1, 0, 2, 4, 5, -9);
        x.tie(3, 4, true);
        ways("tied later", x, 5, -1, 0, 2, 4, 5, -9);
        x.fray(2, 4);
        ways("frayed", x, 5, -4, 1, 3, 4, 5, -9);
        x.pin(2, true);
        x.mend(2, 4);
        ways("a shorter one, from a pinned part", x, 5, 2, 4, 5, -9);
        x.pin(3, true);
        ways("two of them: the one tied first", x, 5, 2, 4, 5, -9);
        x.cut(2, 4);
        x.tie(2, 4, true);
        ways("and now the other one", x, 5, 3, 4, 5, -9);
    }
}
