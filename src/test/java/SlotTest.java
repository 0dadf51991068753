/** Promises 28 and 29: save, restore. */
public final class SlotTest {
    public static void main(String[] args) {
        wrong();
        keepsAll();
        slotsAreApart();
        eachSlot();
        sinceTheLastLoad();
        fromNoPartToAll();
        Check.end();
    }

    private static void wrong() {
        StringShed x = new StringShed();
        int[] slots = {-1, 2, Integer.MAX_VALUE, Integer.MIN_VALUE};
        for (int slot : slots) {
            Check.refused("save " + slot, IndexOutOfBoundsException.class, () -> x.save(slot));
            Check.refused("restore " + slot, IndexOutOfBoundsException.class, () -> x.restore(slot));
        }
        Check.refused("restore nothing", IllegalStateException.class, () -> x.restore(0));
        Check.is("save", 0, () -> x.save(0));
        Check.refused("the other slot", IllegalStateException.class, () -> x.restore(1));
        x.make(1);
        Check.refused("restore 2", IndexOutOfBoundsException.class, () -> x.restore(2));
        Check.refused("restore 1", IllegalStateException.class, () -> x.restore(1));
        Check.is("a refused restore forgets nothing", 0, x::undo);
        Check.is("restore", 0, () -> x.restore(0));
    }

    private static void keepsAll() {
        StringShed x = Check.shed("Sn3n4n5n6th000t0001t0203p03bssssbs");
        Check.is("save", 3, () -> x.save(1));
        x.make(9);
        x.tie(1, 3, false);
        x.cut(-1, 0);
        x.pin(3, false);
        x.step();
        x.step();
        x.step();
        x.append('!');
        Check.is("restore", 3, () -> x.restore(1));
        int[] due = {3, 4, 1, 2, 0, 1, 3, 13, 1, 1, 1, 2};
        for (int what = 0; what < due.length; what++) {
            int w = what;
            Check.is("restored: about " + w, due[w], () -> x.about(w));
        }
        Check.is("black", 2, () -> x.part(0, 6));
        Check.is("gray", 1, () -> x.part(3, 6));
        Check.is("gray", 1, () -> x.part(1, 6));
        Check.is("the row", 3, x::step);
        Check.is("the row", 1, x::step);
        Check.is("the end", -9, x::step);
        Check.is("states since", 2, x::undo);
        x.undo();
        x.undo();
        Check.refused("restore forgets states", IllegalStateException.class, x::undo);
        Check.is("the text stays", 1, x::clearText);
    }

    private static void slotsAreApart() {
        StringShed x = new StringShed();
        x.make(1);
        x.save(0);
        x.make(2);
        x.tie(-1, 1, true);
        x.save(1);
        x.cut(-1, 1);
        Check.is("restore 0", 1, () -> x.restore(0));
        Check.is("no strings", 0, () -> x.about(3));
        x.make(7);
        Check.is("restore 1", 2, () -> x.restore(1));
        Check.is("one string", 1, () -> x.string(-1, 1));
        Check.is("its weight", 2, () -> x.part(1, 0));
        x.cut(-1, 1);
        Check.is("the slot keeps it", 2, () -> x.restore(1));
        Check.is("one string again", 1, () -> x.about(3));
        x.save(0);
        x.pin(0, true);
        x.undo();
        Check.is("saved anew", 2, () -> x.restore(0));
        Check.is("undo leaves the slots", 1, () -> x.about(3));
    }

    /** "slot: 0 or 1": each by itself, and none beside them. */
    private static void eachSlot() {
        for (int slot = 0; slot < 2; slot++) {
            int it = slot;
            int other = 1 - slot;
            StringShed x = new StringShed();
            x.make(3);
            Check.refused("not saved", IllegalStateException.class, () -> x.restore(it));
            Check.is("save " + it, 1, () -> x.save(it));
            Check.refused("the other one", IllegalStateException.class, () -> x.restore(other));
            x.make(4);
            Check.is("restore " + it, 1, () -> x.restore(it));
            Check.is("and again", 1, () -> x.restore(it));
            Check.refused("the other one, yet", IllegalStateException.class, () -> x.restore(other));
            Check.refused("slot -1", IndexOutOfBoundsException.class, () -> x.restore(-1));
            Check.refused("slot 2", IndexOutOfBoundsException.class, () -> x.restore(2));
            x.make(5);
            Check.is("save anew", 2, () -> x.save(it));
            x.undo();
            Check.is("undo does not undo it", 2, () -> x.restore(it));
            Check.is("the state of the last save", 5, () -> x.part(1, 0));
        }
    }

    /** "if nothing has been saved in it since the last load": a load that is refused empties none. */
    private static void sinceTheLastLoad() {
        StringShed x = new StringShed();
        x.make(3);
        x.save(0);
        x.save(1);
        Check.refused("no shed", IllegalStateException.class, x::load);
        Check.is("slot 0 is kept", 1, () -> x.restore(0));
        Check.is("slot 1 is kept", 1, () -> x.restore(1));
        x.append('S');
        Check.is("load", 0, x::load);
        Check.refused("slot 0 is empty", IllegalStateException.class, () -> x.restore(0));
        Check.refused("slot 1 is empty", IllegalStateException.class, () -> x.restore(1));
        Check.is("save", 0, () -> x.save(1));
        Check.is("saved since", 0, () -> x.restore(1));
        Check.refused("slot 0 is empty yet", IllegalStateException.class, () -> x.restore(0));
        Check.is("load again", 0, x::load);
        Check.refused("slot 1 is empty again", IllegalStateException.class, () -> x.restore(1));
    }

    /** "Returns the parts that are there.": from none to 24, not those that were swept. */
    private static void fromNoPartToAll() {
        StringShed x = new StringShed();
        for (int n = 0; n <= 24; n++) {
            int parts = n;
            Check.is("save", parts, () -> x.save(parts % 2));
            Check.is("restore", parts, () -> x.restore(parts % 2));
            if (n < 24) {
                x.make(1);
                x.pin(n, n % 3 == 0);
            }
        }
        x.begin();
        while (x.about(8) == 1) {
            x.step();
        }
        Check.is("save those that are left", 8, () -> x.save(1));
        Check.is("restore all", 24, () -> x.restore(0));
        Check.is("restore those that are left", 8, () -> x.restore(1));
        Check.is("swept ones stay swept", 16, () -> x.about(2));
    }
}
