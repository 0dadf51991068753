/** Promises 1 to 5: a new object, append, clearText, errorPosition, load. */
public final class TextTest {
    public static void main(String[] args) {
        newObject();
        append();
        clearText();
        errorPosition();
        load();
        Check.end();
    }

    private static void newObject() {
        StringShed x = new StringShed();
        for (int what = 0; what <= 10; what++) {
            int w = what;
            Check.is("new: about " + w, 0, () -> x.about(w));
        }
        Check.is("new: about 11", -9, () -> x.about(11));
        Check.is("new: stringAt", -9, () -> x.stringAt(0));
        Check.refused("new: undo", IllegalStateException.class, x::undo);
        Check.refused("new: part", IndexOutOfBoundsException.class, () -> x.part(0, 0));
        Check.refused("new: restore", IllegalStateException.class, () -> x.restore(1));
        Check.is("new: clearText", 0, x::clearText);
    }

    private static void append() {
        StringShed x = new StringShed();
        Check.refused("append -1", IllegalArgumentException.class, () -> x.append(-1));
        Check.refused("append 256", IllegalArgumentException.class, () -> x.append(256));
        Check.is("append 0", 1, () -> x.append(0));
        Check.is("append 255", 2, () -> x.append(255));
        for (int i = 3; i <= 120; i++) {
            int length = i;
            Check.is("append", length, () -> x.append('b'));
        }
        Check.refused("append to 120", IllegalStateException.class, () -> x.append('b'));
        Check.refused("append 256 to 120", IllegalArgumentException.class, () -> x.append(256));
        Check.is("clear 120", 120, x::clearText);
        Check.is("append again", 1, () -> x.append('S'));
    }

    private static void clearText() {
        StringShed x = new StringShed();
        Check.write(x, "Sn1");
        Check.is("clearText", 3, x::clearText);
        Check.is("clearText again", 0, x::clearText);
        Check.is("the text is empty", 0, x::errorPosition);
    }

    private static void error(String text, int due) {
        StringShed x = new StringShed();
        Check.write(x, text);
        Check.is("errorPosition " + text, due, x::errorPosition);
        Check.is("about after errorPosition", 0, () -> x.about(1));
        if (due != -9) {
            Check.refused("load " + text, IllegalStateException.class, x::load);
        }
    }

    private static void errorPosition() {
        error("", 0);
        error("s", 0);
        error("n1", 0);
        error("S", -9);
        error("SS", 1);
        error("S ", 1);
        error("Su", 1);
        error("S" + (char) 255, 1);
        error("Sn", 2);
        error("Sn0", 2);
        error("Snn", 2);
        error("Sn1", -9);
        error("Sn9", -9);
        error("Sn10", 3);
        error("Sbsbs", -9);
        error("Sb0", 2);
        error("Sp", 2);
        error("Sp0", 3);
        error("Sp3", 2);
        error("Sph", 2);
        error("Sp00", -9);
        error("Sp19", -9);
        error("Sp1:", 3);
        error("Sp1/", 3);
        error("Sp20", -9);
        error("Sp23", -9);
        error("Sp24", 3);
        error("Sp230", 4);
        for (char letter : "txfm".toCharArray()) {
            error("S" + letter, 2);
            error("S" + letter + "h", 3);
            error("S" + letter + "h4", 3);
            error("S" + letter + "hh", 3);
            error("S" + letter + "h3", 4);
            error("S" + letter + "h324", 5);
            error("S" + letter + "h33", 4);
            error("S" + letter + "h323", -9);
            error("S" + letter + "h009", -9);
            error("S" + letter + "3", 2);
            error("S" + letter + "2", 3);
            error("S" + letter + "24", 3);
            error("S" + letter + "1h", 3);
            error("S" + letter + "23", 4);
            error("S" + letter + "23h", 4);
            error("S" + letter + "1919", -9);
            error("S" + letter + "2323b", -9);
            error("S" + letter + "2020b", -9);
            error("S" + letter + "1024", 5);
        }
        error("S" + "b".repeat(119), -9);
        error("S" + "b".repeat(118) + "n", 120);
        error("S" + "b".repeat(118) + "0", 119);
    }

    private static void load() {
        StringShed x = new StringShed();
        x.make(5);
        x.pin(0, true);
        x.save(0);
        x.save(1);
        Check.write(x, "Sn3n4n5th000t0001t0002mh000fh000fh000xh100t0000p09p01p02p01sbbs");
        Check.is("load", 7, x::load);
        Check.refused("load forgets states", IllegalStateException.class, x::undo);
        Check.refused("load empties slot 0", IllegalStateException.class, () -> x.restore(0));
        Check.refused("load empties slot 1", IllegalStateException.class, () -> x.restore(1));
        Check.is("parts", 3, () -> x.about(0));
        Check.is("strings", 3, () -> x.about(3));
        Check.is("frayed", 1, () -> x.about(4));
        Check.is("p pins", 1, () -> x.part(2, 1));
        Check.is("p twice unpins", 0, () -> x.part(1, 1));
        Check.is("b begins, s steps", 2, () -> x.part(2, 6));
        Check.is("load keeps the text", 63, x::clearText);
        x.append('S');
        Check.is("load anew", 0, x::load);
        for (int what = 0; what <= 10; what++) {
            int w = what;
            Check.is("load makes it new: about " + w, 0, () -> x.about(w));
        }
        Check.write(x, "n1");
        Check.is("load again", 0, x::load);
        Check.is("load again: parts", 1, () -> x.about(1));
        x.append('!');
        x.make(2);
        Check.refused("load of no shed", IllegalStateException.class, x::load);
        Check.is("it changes nothing", 2, () -> x.about(1));
        Check.is("it forgets nothing", 0, x::undo);
        cutAndMend();
        twoDigits();
        twentyFive();
    }

    private static void cutAndMend() {
        StringShed x = Check.shed("Sn1n2n3th000th301t0102fh000mh000x0102bss");
        Check.is("x cuts", 2, () -> x.about(3));
        Check.is("m mends", 0, () -> x.about(4));
        Check.is("h3 is -4", 1, () -> x.string(-4, 1));
        Check.is("two steps", 2, () -> x.part(1, 6));
        Check.is("white", 0, () -> x.part(2, 6));
        Check.is("the sweep ends", -10, x::step);
    }

    private static void twoDigits() {
        StringShed x = Check.shed("S" + "n1".repeat(22) + "t0021t1012th321t1210f1210f0021m1210fh321x1012p20p19p20");
        Check.is("strings", 3, () -> x.about(3));
        Check.is("t0021, f", 2, () -> x.string(0, 21));
        Check.is("th321, f", 2, () -> x.string(-4, 21));
        Check.is("t1210, f, m", 1, () -> x.string(12, 10));
        Check.is("p19", 1, () -> x.part(19, 1));
        Check.is("p20 twice", 0, () -> x.part(20, 1));
        Check.is("one pinned", 1, () -> x.about(5));
        StringShed y = Check.shed("Sn1n1n1th000th101t0102fh000fh101f0102mh101m0102");
        Check.is("mended", 1, () -> y.string(-2, 1));
        Check.is("mended", 1, () -> y.string(1, 2));
        Check.is("not mended", 2, () -> y.string(-1, 0));
    }

    private static void twentyFive() {
        StringShed x = new StringShed();
        Check.write(x, "S" + "n7".repeat(25));
        Check.is("the 25th part is left out", 1, x::load);
        Check.is("24 parts", 24, () -> x.about(1));
        Check.is("weight", 7, () -> x.part(23, 0));
    }
}
