/** What calls leave as it is: questions change nothing, undo takes all back, restore and load replace all. */
public final class StillTest {
    public static void main(String[] args) {
        states();
        lookingChangesNothing();
        whatWouldBeChangesNothing();
        scriptsChangeNothing();
        textChangesTextAlone();
        saveChangesSlotsAlone();
        undoTakesBackAll();
        undoIsNoAction();
        restoreReplacesAll();
        loadReplacesAll();
        Check.end();
    }

    /** The other tests of Sheds mean something only if they are as they are said to be. */
    private static void states() {
        StringShed x = Sheds.busy();
        int[] due = {7, 8, 1, 9, 2, 1, 4, 18, 1, 1, 1, 2};
        for (int i = 0; i < due.length; i++) {
            int what = i;
            Check.is("busy: about " + what, due[what], () -> x.about(what));
        }
        for (int p : new int[] {3, 1, 2}) {
            Check.is("busy: the row", p, x::step);
        }
        Check.is("busy: white are 5 and 6", -11, x::step);
        Check.is("busy: the text", 45, x::clearText);
        StringShed y = Sheds.full();
        Check.is("full: parts", 23, () -> y.about(0));
        Check.is("full: made", 24, () -> y.about(1));
        Check.is("full: strings", 40, () -> y.about(3));
        Check.is("full: the text is a shed", -9, y::errorPosition);
        Check.is("full: the text", 120, y::clearText);
        StringShed few = Sheds.few();
        for (int left = 12; left >= 0; left--) {
            Check.is("few: undo", left, few::undo);
        }
    }

    private static void still(String call, Twins.On on) {
        Twins.unchanged(call + " without a sweep", Sheds::few, on);
        Twins.unchanged(call + " in a sweep", Sheds::busy, on);
        Twins.unchanged(call + " with 24 parts and 40 strings", Sheds::full, on);
    }

    private static void lookingChangesNothing() {
        still("errorPosition", StringShed::errorPosition);
        Twins.unchanged("errorPosition of a wrong text", Sheds::fullOfWrongText, StringShed::errorPosition);
        for (int what = 0; what <= 11; what++) {
            int w = what;
            still("about " + w, x -> x.about(w));
        }
        for (int what = 0; what <= 6; what++) {
            int w = what;
            still("part 1 " + w, x -> x.part(1, w));
        }
        still("string", x -> x.string(1, 2));
        still("stringAt", x -> x.stringAt(3));
        still("stringAt behind the last", x -> x.stringAt(40));
    }

    /** "these and all following methods up to the save slots change nothing" */
    private static void whatWouldBeChangesNothing() {
        still("falls", x -> x.falls(x.stringAt(0) / 100 - 4, x.stringAt(0) % 100));
        still("falls, frayed", x -> x.falls(0, 2));
        still("cuts", x -> x.cuts(1));
        still("cuts of what is not held", x -> x.cuts(6));
        still("heaviest", StringShed::heaviest);
        still("rings", StringShed::rings);
        still("takes", StringShed::takes);
        still("spares", StringShed::spares);
        still("way", x -> x.way(1, 0));
        still("way behind the last", x -> x.way(1, 30));
    }

    private static void scriptsChangeNothing() {
        long[] scripts = {
            100091000910009L, 290069000791022L, 300013000230302L, 400024010370200L, 500006000570100L,
            600016000160001L, 600996009960099L, 399999999999999L, 700017000270003L, 0L
        };
        for (long script : scripts) {
            still("runScript " + script, x -> x.runScript(3, script));
        }
        still("runScript 1", x -> x.runScript(1, 10009));
        still("runScript 2", x -> x.runScript(2, 1000970001L));
        for (long seed = 0; seed < 6; seed++) {
            long s = seed;
            still("simulate " + s, x -> x.simulate(s, 200));
        }
        still("simulate one turn", x -> x.simulate(-1, 1));
    }

    /** "the state, which consists of everything but the text and the save slots" */
    private static void textChangesTextAlone() {
        for (int c : new int[] {0, 's', 255}) {
            Twins.changesTextAlone("append " + c, Sheds::few, x -> x.append(c));
            Twins.changesTextAlone("append " + c + " in a sweep", Sheds::busy, x -> x.append(c));
        }
        Twins.changesTextAlone("clearText", Sheds::busy, StringShed::clearText);
        Twins.changesTextAlone("clearText of 120", Sheds::full, StringShed::clearText);
        Twins.unchanged("clearText of nothing", StillTest::withoutText, StringShed::clearText);
    }

    private static StringShed withoutText() {
        StringShed x = Sheds.busy();
        x.clearText();
        return x;
    }

    private static void saveChangesSlotsAlone() {
        for (int slot = 0; slot < 2; slot++) {
            int s = slot;
            Twins.changesSlotsAlone("save " + s, Sheds::few, x -> x.save(s));
            Twins.changesSlotsAlone("save in a sweep " + s, Sheds::busy, x -> x.save(s));
            Twins.changesSlotsAlone("save over another " + s, Sheds::full, x -> x.save(s));
        }
    }

    /** "Before each action, the state is remembered.": an action and undo leave all as it was. */
    private static void undoTakesBackAll() {
        undone("make", x -> x.make(8));
        undone("tie", x -> x.tie(0, 6, true));
        undone("tie at a hook", x -> x.tie(-3, 5, true));
        undone("tie frayed", x -> x.tie(0, 6, false));
        undone("cut", x -> x.cut(-1, 0));
        undone("cut in the middle", x -> x.cut(0, 1));
        undone("cut the last", x -> x.cut(5, 6));
        undone("cut a frayed one", x -> x.cut(-2, 3));
        undone("fray", x -> x.fray(-1, 0));
        undone("mend", x -> x.mend(0, 2));
        undone("mend at a hook", x -> x.mend(-2, 3));
        undone("pin", x -> x.pin(5, true));
        undone("pin again", x -> x.pin(3, true));
        undone("unpin", x -> x.pin(3, false));
        undone("unpin what is not pinned", x -> x.pin(5, false));
        undone("begin", StringShed::begin);
        undone("step", StringShed::step);
        Twins.unchanged("the last step, undone", StillTest::beforeTheEnd, x -> x.step() + x.undo());
        Twins.unchanged("all steps, undone", Sheds::sweeping, x -> {
            int steps = 0;
            for (; x.about(8) == 1; steps++) {
                x.step();
            }
            for (; steps > 0; steps--) {
                x.undo();
            }
            return 0;
        });
    }

    private static StringShed beforeTheEnd() {
        StringShed x = Sheds.sweeping();
        x.step();
        x.step();
        x.step();
        return x;
    }

    private static void undone(String action, Twins.On on) {
        Twins.unchanged(action + ", undone", Sheds::few, x -> actAndUndo(x, on));
        Twins.unchanged(action + ", undone in a sweep", Sheds::sweeping, x -> actAndUndo(x, on));
    }

    private static long actAndUndo(StringShed x, Twins.On on) {
        try {
            on.call(x);
        } catch (IllegalStateException e) {
            // begin or step, where it is refused: there is nothing to undo.
            return 0;
        }
        return x.undo();
    }

    /** "(undo is none)": it is not taken back itself, but the action before it. */
    private static void undoIsNoAction() {
        Twins.alike("undo after undo", () -> after(StringShed::undo), () -> after(x -> {
            x.cut(-1, 0);
            return x.undo() + x.undo();
        }));
        StringShed x = Sheds.few();
        Check.is("undo", 12, x::undo);
        Check.is("undo", 11, x::undo);
        Check.is("an action", 7, () -> x.make(9));
        Check.is("undo", 11, x::undo);
        Check.is("undo", 10, x::undo);
    }

    private static StringShed after(Twins.On on) {
        StringShed x = Sheds.few();
        on.call(x);
        return x;
    }

    /** Promise 29: the state becomes the one in the slot, and all remembered states are forgotten. */
    private static void restoreReplacesAll() {
        for (int slot = 0; slot < 2; slot++) {
            int s = slot;
            Twins.alike("restore at once and later " + s, () -> restored(s, false), () -> restored(s, true));
            Twins.unchanged("restore again " + s, () -> restored(s, true), x -> x.restore(s));
        }
        Twins.alikeInState("restore is what was saved", Sheds::busy, Sheds::sweeping);
    }

    private static StringShed restored(int slot, boolean later) {
        StringShed x = Sheds.busy();
        x.save(slot);
        if (later) {
            x.step();
            x.make(1);
            x.cut(-1, 0);
            x.tie(-4, 5, false);
            x.fray(0, 1);
            x.mend(0, 2);
            x.pin(6, true);
            x.pin(3, false);
            while (x.about(8) == 1) {
                x.step();
            }
            x.begin();
            x.undo();
        }
        x.restore(slot);
        return x;
    }

    /** Promise 5: "Makes everything as in a new object, and then does the commands of the text." */
    private static void loadReplacesAll() {
        String[] texts = {"S", "Sb", "Sn3n4th000t0001bs", "Sn1n2n3p01th000f0001fh000bsp02"};
        for (String text : texts) {
            Twins.Maker anew = () -> loaded(new StringShed(), text);
            Twins.alike("load anew in a sweep " + text, anew, () -> loaded(Sheds.busy(), text));
            Twins.alike("load anew " + text, anew, () -> loaded(Sheds.full(), text));
        }
        Twins.unchanged("load again", () -> loaded(new StringShed(), texts[2]), StringShed::load);
    }

    private static StringShed loaded(StringShed x, String text) {
        x.clearText();
        Check.write(x, text);
        x.load();
        return x;
    }
}
