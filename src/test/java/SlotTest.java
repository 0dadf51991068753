/** Promises 28 and 29: save, restore. */
public final class SlotTest {
    public static void main(String[] args) {
        wrong();
        keepsAll();
        slotsAreApart();
        Check.end();
    }

    private static void wrong() {
        StringShed x = new StringShed();
        int[] slots = {-1, 2, Integer.MAX_VALUE, Integer.MIN_VALUE};
        for (int slot : slots) {
            Check.refused("save " + slot, IndexOutOfBoundsException.class, () -> x.save(slot));
            Check.refused("restore " + slot, IndexOutOfBoundsException.class, () -> x.restore(slot));
        }
        Check.refused("restore nothing", IllegalStateException.class, () -> x.restore(0));
        Check.is("save", 0, () -> x.save(0));
        Check.refused("the other slot", IllegalStateException.class, () -> x.restore(1));
        x.make(1);
        Check.refused("restore 2", IndexOutOfBoundsException.class, () -> x.restore(2));
        Check.refused("restore 1", IllegalStateException.class, () -> x.restore(1));
        Check.is("a refused restore forgets nothing", 0, x::undo);
        Check.is("restore", 0, () -> x.restore(0));
    }

    private static void keepsAll() {
        StringShed x = Check.shed("Sn3n4n5n6th000t0001t0203p03bssssbs");
        Check.is("save", 3, () -> x.save(1));
        x.make(9);
        x.tie(1, 3, false);
        x.cut(-1, 0);
        x.pin(3, false);
        x.step();
        x.step();
        x.step();
        x.append('!');
        Check.is("restore", 3, () -> x.restore(1));
        int[] due = {3, 4, 1, 2, 0, 1, 3, 13, 1, 1, 1, 2};
        for (int what = 0; what < due.length; what++) {
            int w = what;
            Check.is("restored: about " + w, due[w], () -> x.about(w));
        }
        Check.is("black", 2, () -> x.part(0, 6));
        Check.is("gray", 1, () -> x.part(3, 6));
        Check.is("gray", 1, () -> x.part(1, 6));
        Check.is("the row", 3, x::step);
        Check.is("the row", 1, x::step);
        Check.is("the end", -9, x::step);
        Check.is("states since", 2, x::undo);
        x.undo();
        x.undo();
        Check.refused("restore forgets states", IllegalStateException.class, x::undo);
        Check.is("the text stays", 1, x::clearText);
    }

    private static void slotsAreApart() {
        StringShed x = new StringShed();
        x.make(1);
        x.save(0);
        x.make(2);
        x.tie(-1, 1, true);
        x.save(1);
        x.cut(-1, 1);
        Check.is("restore 0", 1, () -> x.restore(0));
        Check.is("no strings", 0, () -> x.about(3));
        x.make(7);
        Check.is("restore 1", 2, () -> x.restore(1));
        Check.is("one string", 1, () -> x.string(-1, 1));
        Check.is("its weight", 2, () -> x.part(1, 0));
        x.cut(-1, 1);
        Check.is("the slot keeps it", 2, () -> x.restore(1));
        Check.is("one string again", 1, () -> x.about(3));
        x.save(0);
        x.pin(0, true);
        x.undo();
        Check.is("saved anew", 2, () -> x.restore(0));
        Check.is("undo leaves the slots", 1, () -> x.about(3));
    }
}
