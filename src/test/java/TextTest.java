/** Promises 1 to 5: a new object, append, clearText, errorPosition, load. */
public final class TextTest {
    public static void main(String[] args) {
        newObject();
        append();
        clearText();
        textStaysAsWritten();
        errorPosition();
        eachPlace();
        endsTooSoon();
        noBlanks();
        load();
        leftOut();
        leftOutByNumber();
        leftToRight();
        loadTwice();
        Check.end();
    }

    private static void newObject() {
        StringShed x = new StringShed();
        for (int what = 0; what <= 10; what++) {
            int w = what;
            Check.is("new: about " + w, 0, () -> x.about(w));
        }
        Check.is("new: about 11", -9, () -> x.about(11));
        Check.is("new: stringAt", -9, () -> x.stringAt(0));
        Check.refused("new: undo", IllegalStateException.class, x::undo);
        Check.refused("new: part", IndexOutOfBoundsException.class, () -> x.part(0, 0));
        Check.refused("new: restore", IllegalStateException.class, () -> x.restore(1));
        Check.refused("new: restore", IllegalStateException.class, () -> x.restore(0));
        Check.refused("new: step", IllegalStateException.class, x::step);
        Check.is("new: errorPosition", 0, x::errorPosition);
        Check.is("new: heaviest", -9, x::heaviest);
        Check.is("new: rings", 0, x::rings);
        Check.is("new: takes", 0, x::takes);
        Check.is("new: spares", 0, x::spares);
        Check.is("new: clearText", 0, x::clearText);
        Check.is("new: the first part", 0, () -> x.make(1));
        Check.is("new: the next object is another one", 0, () -> new StringShed().about(1));
    }

    private static void append() {
        StringShed x = new StringShed();
        Check.refused("append -1", IllegalArgumentException.class, () -> x.append(-1));
        Check.refused("append 256", IllegalArgumentException.class, () -> x.append(256));
        Check.is("append 0", 1, () -> x.append(0));
        Check.is("append 255", 2, () -> x.append(255));
        for (int i = 3; i <= 120; i++) {
            int length = i;
            Check.is("append", length, () -> x.append('b'));
        }
        Check.refused("append to 120", IllegalStateException.class, () -> x.append('b'));
        Check.refused("append 256 to 120", IllegalArgumentException.class, () -> x.append(256));
        Check.is("clear 120", 120, x::clearText);
        Check.is("append again", 1, () -> x.append('S'));
    }

    /** Each character is told from each other one: 'S' alone is a shed. */
    private static void textStaysAsWritten() {
        for (int c = 0; c <= 255; c++) {
            int code = c;
            StringShed x = new StringShed();
            Check.is("append " + c, 1, () -> x.append(code));
            Check.is("errorPosition of character " + c, c == 'S' ? -9 : 0, x::errorPosition);
            Check.is("clearText", 1, x::clearText);
            Check.is("append behind clearText", 1, () -> x.append('S'));
            Check.is("nothing of the old text", -9, x::errorPosition);
        }
        StringShed full = Sheds.fullOfWrongText();
        Check.is("the last of 120", 119, full::errorPosition);
        Check.is("clearText", 120, full::clearText);
        full.append('S');
        Check.is("nothing of the old text", -9, full::errorPosition);
    }

    private static void clearText() {
        StringShed x = new StringShed();
        Check.write(x, "Sn1");
        Check.is("clearText", 3, x::clearText);
        Check.is("clearText again", 0, x::clearText);
        Check.is("the text is empty", 0, x::errorPosition);
    }

    private static void error(String text, int due) {
        StringShed x = new StringShed();
        Check.write(x, text);
        Check.is("errorPosition " + text, due, x::errorPosition);
        Check.is("about after errorPosition", 0, () -> x.about(1));
        if (due != -9) {
            Check.refused("load " + text, IllegalStateException.class, x::load);
        }
    }

    private static void errorPosition() {
        error("", 0);
        error("s", 0);
        error("n1", 0);
        error("S", -9);
        error("SS", 1);
        error("S ", 1);
        error("Su", 1);
        error("S" + (char) 255, 1);
        error("Sn", 2);
        error("Sn0", 2);
        error("Snn", 2);
        error("Sn1", -9);
        error("Sn9", -9);
        error("Sn10", 3);
        error("Sbsbs", -9);
        error("Sb0", 2);
        error("Sp", 2);
        error("Sp0", 3);
        error("Sp3", 2);
        error("Sph", 2);
        error("Sp00", -9);
        error("Sp19", -9);
        error("Sp1:", 3);
        error("Sp1/", 3);
        error("Sp20", -9);
        error("Sp23", -9);
        error("Sp24", 3);
        error("Sp230", 4);
        for (char letter : "txfm".toCharArray()) {
            error("S" + letter, 2);
            error("S" + letter + "h", 3);
            error("S" + letter + "h4", 3);
            error("S" + letter + "hh", 3);
            error("S" + letter + "h3", 4);
            error("S" + letter + "h324", 5);
            error("S" + letter + "h33", 4);
            error("S" + letter + "h323", -9);
            error("S" + letter + "h009", -9);
            error("S" + letter + "3", 2);
            error("S" + letter + "2", 3);
            error("S" + letter + "24", 3);
            error("S" + letter + "1h", 3);
            error("S" + letter + "23", 4);
            error("S" + letter + "23h", 4);
            error("S" + letter + "1919", -9);
            error("S" + letter + "2323b", -9);
            error("S" + letter + "2020b", -9);
            error("S" + letter + "1024", 5);
        }
        error("S" + "b".repeat(119), -9);
        error("S" + "b".repeat(118) + "n", 120);
        error("S" + "b".repeat(118) + "0", 119);
    }

    /** "the index of the first character that these rules do not allow at its place": each one of 256 at each place. */
    private static void eachPlace() {
        place("", "S");
        for (String before : new String[] {"S", "Sn1", "Sb", "Ss", "Sp00", "Sth000", "Sx2323"}) {
            place(before, "ntxfmpbs");
        }
        place("Sn", "123456789");
        for (char letter : "txfm".toCharArray()) {
            place("S" + letter, "012h");
            place("S" + letter + "h", "0123");
            place("S" + letter + "0", "0123456789");
            place("S" + letter + "1", "0123456789");
            place("S" + letter + "2", "0123");
            for (String above : new String[] {"h0", "h3", "00", "19", "23"}) {
                place("S" + letter + above, "012");
                place("S" + letter + above + "0", "0123456789");
                place("S" + letter + above + "1", "0123456789");
                place("S" + letter + above + "2", "0123");
            }
        }
        place("Sp", "012");
        place("Sp0", "0123456789");
        place("Sp1", "0123456789");
        place("Sp2", "0123");
    }

    private static void place(String before, String allowed) {
        for (int c = 0; c <= 255; c++) {
            StringShed x = new StringShed();
            Check.write(x, before);
            int length = x.append(c);
            boolean fine = allowed.indexOf((char) c) >= 0;
            int got = x.errorPosition();
            boolean right = fine ? got == -9 || got == length : got == before.length();
            Check.compare(before + " and " + c + ": errorPosition " + got, "true", String.valueOf(right));
            x.append('!');
            Check.is(before + " and " + c + " and !", fine ? length : before.length(), x::errorPosition);
        }
    }

    /** "if the text ends too soon, it is the length of the text": a text of whole commands does not. */
    private static void endsTooSoon() {
        String text = "Sn1th000x0123fh323m2323p09bsn9";
        String whole = " 1 3 8 13 18 23 26 27 28 30 ";
        for (int n = 0; n <= text.length(); n++) {
            boolean ends = whole.contains(" " + n + " ");
            error(text.substring(0, n), ends ? -9 : n);
        }
        error("S" + "n1".repeat(59), -9);
        error("S" + "n1".repeat(59) + "b", -9);
        error("S" + "n1".repeat(59) + "n", 120);
        error("S" + "n1".repeat(59) + "1", 119);
        error("S" + "n1".repeat(57) + "th000", -9);
        error("S" + "n1".repeat(57) + "bth00", 120);
    }

    /** "There are no blanks." */
    private static void noBlanks() {
        String text = "Sn1th000x0123p09bs";
        for (int at = 0; at <= text.length(); at++) {
            error(text.substring(0, at) + " " + text.substring(at), at);
        }
    }

    private static void load() {
        StringShed x = new StringShed();
        x.make(5);
        x.pin(0, true);
        x.save(0);
        x.save(1);
        Check.write(x, "Sn3n4n5th000t0001t0002mh000fh000fh000xh100t0000p09p01p02p01sbbs");
        Check.is("load", 7, x::load);
        Check.refused("load forgets states", IllegalStateException.class, x::undo);
        Check.refused("load empties slot 0", IllegalStateException.class, () -> x.restore(0));
        Check.refused("load empties slot 1", IllegalStateException.class, () -> x.restore(1));
        Check.is("parts", 3, () -> x.about(0));
        Check.is("strings", 3, () -> x.about(3));
        Check.is("frayed", 1, () -> x.about(4));
        Check.is("p pins", 1, () -> x.part(2, 1));
        Check.is("p twice unpins", 0, () -> x.part(1, 1));
        Check.is("b begins, s steps", 2, () -> x.part(2, 6));
        Check.is("load keeps the text", 63, x::clearText);
        x.append('S');
        Check.is("load anew", 0, x::load);
        for (int what = 0; what <= 10; what++) {
            int w = what;
            Check.is("load makes it new: about " + w, 0, () -> x.about(w));
        }
        Check.write(x, "n1");
        Check.is("load again", 0, x::load);
        Check.is("load again: parts", 1, () -> x.about(1));
        x.append('!');
        x.make(2);
        Check.refused("load of no shed", IllegalStateException.class, x::load);
        Check.is("it changes nothing", 2, () -> x.about(1));
        Check.is("it forgets nothing", 0, x::undo);
        cutAndMend();
        twoDigits();
        twentyFive();
    }

    private static void cutAndMend() {
        StringShed x = Check.shed("Sn1n2n3th000th301t0102fh000mh000x0102bss");
        Check.is("x cuts", 2, () -> x.about(3));
        Check.is("m mends", 0, () -> x.about(4));
        Check.is("h3 is -4", 1, () -> x.string(-4, 1));
        Check.is("two steps", 2, () -> x.part(1, 6));
        Check.is("white", 0, () -> x.part(2, 6));
        Check.is("the sweep ends", -10, x::step);
    }

    private static void twoDigits() {
        StringShed x = Check.shed("S" + "n1".repeat(22) + "t0021t1012th321t1210f1210f0021m1210fh321x1012p20p19p20");
        Check.is("strings", 3, () -> x.about(3));
        Check.is("t0021, f", 2, () -> x.string(0, 21));
        Check.is("th321, f", 2, () -> x.string(-4, 21));
        Check.is("t1210, f, m", 1, () -> x.string(12, 10));
        Check.is("p19", 1, () -> x.part(19, 1));
        Check.is("p20 twice", 0, () -> x.part(20, 1));
        Check.is("one pinned", 1, () -> x.about(5));
        StringShed y = Check.shed("Sn1n1n1th000th101t0102fh000fh101f0102mh101m0102");
        Check.is("mended", 1, () -> y.string(-2, 1));
        Check.is("mended", 1, () -> y.string(1, 2));
        Check.is("not mended", 2, () -> y.string(-1, 0));
    }

    private static void twentyFive() {
        StringShed x = new StringShed();
        Check.write(x, "S" + "n7".repeat(25));
        Check.is("the 25th part is left out", 1, x::load);
        Check.is("24 parts", 24, () -> x.about(1));
        Check.is("weight", 7, () -> x.part(23, 0));
    }

    private static void leftOut(String before, String command) {
        StringShed x = new StringShed();
        Check.write(x, before);
        Check.is("load " + before, 0, x::load);
        Check.write(x, command);
        Check.is("load " + before + command, 1, x::load);
        Twins.alikeInState(command + " behind " + before, () -> Check.shed(before), () -> Check.shed(before, command));
    }

    /** "Commands that would throw an exception are left out.": each kind for each reason, and nothing else is. */
    private static void leftOut() {
        leftOut("S" + "n1".repeat(24), "n2");
        leftOut("Sn1n2", "t0002");
        leftOut("Sn1n2", "t0200");
        leftOut("Sn1n2", "th002");
        leftOut("Sn1n2", "t0101");
        leftOut("Sn1n2t0001", "t0001");
        leftOut("Sn1n2th001fh001", "th001");
        for (char letter : "xfm".toCharArray()) {
            leftOut("Sn1n2t0001th001", letter + "0100");
            leftOut("Sn1n2t0001th001", letter + "h101");
            leftOut("Sn1n2t0001th001", letter + "0002");
            leftOut("Sn1n2t0001th001", letter + "0201");
        }
        leftOut("Sn1n2t0001f0001", "f0001");
        leftOut("Sn1n2t0001", "m0001");
        leftOut("Sn1n2", "p02");
        leftOut("Sn1n2", "p23");
        leftOut("Sn1n2b", "b");
        leftOut("Sn1n2", "s");
        leftOut("Sn1n2bs", "s");
        leftOut("Sn1n2p01bss", "p00");
        leftOut("Sn1n2p01bss", "th000");
    }

    /** load tells how many are left out, up to all of 119. */
    private static void leftOutByNumber() {
        for (int n = 0; n <= 119; n++) {
            StringShed x = new StringShed();
            Check.write(x, "S" + "s".repeat(n));
            Check.is("load of steps", n, x::load);
        }
        StringShed x = new StringShed();
        Check.write(x, "S" + "b".repeat(119));
        Check.is("load of 119 sweeps", 118, x::load);
    }

    /** "The text is read from left to right." */
    private static void leftToRight() {
        StringShed x = new StringShed();
        Check.write(x, "Sth000n1bth000s");
        Check.is("what comes too soon is left out", 1, x::load);
        Check.is("tied in the sweep", 2, () -> x.part(0, 6));
        StringShed y = Check.shed("Sn3n5t0001t0100x0001f0100");
        Check.is("weights", 3, () -> y.part(0, 0));
        Check.is("weights", 5, () -> y.part(1, 0));
        Check.is("strings", 500, () -> y.stringAt(0));
        Check.is("frayed", 2, () -> y.string(1, 0));
    }

    /** "Makes everything as in a new object": numbers, strings and sweeps do not add up; "Keeps the text." */
    private static void loadTwice() {
        StringShed x = new StringShed();
        Check.write(x, "Sn1n2n3th000t0102bssbn4");
        for (int i = 0; i < 3; i++) {
            int[] due = {2, 4, 2, 1, 0, 0, 1, 1, 1, 1, 1, 1};
            Check.is("load", 0, x::load);
            for (int k = 0; k < due.length; k++) {
                int what = k;
                Check.is("about " + what, due[what], () -> x.about(what));
            }
            Check.refused("nothing is remembered", IllegalStateException.class, x::undo);
            Check.is("an action", 4, () -> x.make(9));
            Check.is("is remembered", 0, x::undo);
            Check.refused("slot 0 is empty", IllegalStateException.class, () -> x.restore(0));
            Check.refused("slot 1 is empty", IllegalStateException.class, () -> x.restore(1));
            x.save(0);
            x.save(1);
            x.make(9);
        }
        Check.is("the text", 23, x::clearText);
    }
}
