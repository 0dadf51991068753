/**
 * Two objects made alike, of which one gets a call more: afterwards both are asked, and made to do, all that
 * tells a difference of their states, of what they remember, of their save slots, and of their texts.
 * Each trace begins with new objects, as what an object answers after 512 calls is free.
 */
final class Twins {
    interface Maker {
        StringShed make();
    }

    interface On {
        long call(StringShed x);
    }

    private interface Trace {
        String of(StringShed x);
    }

    private Twins() {
    }

    /** The call throws this exception, and changes nothing. */
    static void refused(String call, Class<? extends RuntimeException> due, Maker maker, On on) {
        Check.refused(call, due, () -> on.call(maker.make()));
        unchanged(call, maker, on);
    }

    /** The call changes nothing, whatever it answers. */
    static void unchanged(String call, Maker maker, On on) {
        alike(call, maker, after(maker, on));
    }

    /** The call changes nothing but the text. */
    static void changesTextAlone(String call, Maker maker, On on) {
        alikeInState(call, maker, after(maker, on));
        alikeInPast(call, maker, after(maker, on));
        alikeInSlots(call, maker, after(maker, on));
    }

    /** The call changes nothing but the save slots. */
    static void changesSlotsAlone(String call, Maker maker, On on) {
        alikeInState(call, maker, after(maker, on));
        alikeInPast(call, maker, after(maker, on));
        compare(call + ", text", Twins::text, maker, after(maker, on));
    }

    static void alike(String what, Maker one, Maker other) {
        alikeInState(what, one, other);
        alikeInPast(what, one, other);
        alikeInSlots(what, one, other);
        compare(what + ", text", Twins::text, one, other);
    }

    static void alikeInState(String what, Maker one, Maker other) {
        compare(what + ", look", Twins::look, one, other);
        compare(what + ", sweep", Twins::sweep, one, other);
    }

    private static void alikeInPast(String what, Maker one, Maker other) {
        compare(what + ", past", Twins::past, one, other);
        compare(what + ", past in detail", Twins::pastInDetail, one, other);
    }

    private static void alikeInSlots(String what, Maker one, Maker other) {
        compare(what + ", slot 0", x -> slot(x, 0), one, other);
        compare(what + ", slot 1", x -> slot(x, 1), one, other);
    }

    private static Maker after(Maker maker, On on) {
        return () -> {
            StringShed x = maker.make();
            answer(() -> on.call(x));
            return x;
        };
    }

    private static void compare(String what, Trace trace, Maker one, Maker other) {
        String due = trace.of(one.make());
        String got = trace.of(other.make());
        int at = 0;
        while (at < due.length() && at < got.length() && due.charAt(at) == got.charAt(at)) {
            at++;
        }
        int from = Math.max(0, due.lastIndexOf('\n', at));
        Check.compare(what, someOf(due, from), someOf(got, from));
    }

    /** The whole traces are too long to be read. */
    private static String someOf(String trace, int from) {
        return trace.substring(Math.min(from, trace.length()), Math.min(from + 120, trace.length()));
    }

    private static String answer(Check.Call call) {
        try {
            return Long.toString(call.answer());
        } catch (RuntimeException e) {
            return e.getClass().getSimpleName();
        }
    }

    private static void add(StringBuilder trace, String call, Check.Call asked) {
        trace.append('\n').append(call).append(' ').append(answer(asked));
    }

    private static void addAbouts(StringBuilder trace, StringShed x) {
        for (int i = 0; i <= 11; i++) {
            int what = i;
            add(trace, "about " + i, () -> x.about(what));
        }
    }

    private static String look(StringShed x) {
        StringBuilder trace = new StringBuilder();
        addAbouts(trace, x);
        for (int i = 0; i < 40; i++) {
            int code = x.stringAt(i);
            trace.append("\nstringAt ").append(i).append(' ').append(code);
            if (code != -9) {
                add(trace, "string", () -> x.string(code / 100 - 4, code % 100));
            }
        }
        for (int i = 0; i < 24; i++) {
            int p = i;
            for (int what : new int[] {0, 1, 3, 6}) {
                add(trace, "part " + p + " " + what, () -> x.part(p, what));
            }
        }
        add(trace, "heaviest", x::heaviest);
        add(trace, "rings", x::rings);
        add(trace, "takes", x::takes);
        add(trace, "spares", x::spares);
        add(trace, "simulate", () -> x.simulate(11, 100));
        add(trace, "runScript", () -> x.runScript(3, 500006000570001L));
        return trace.toString();
    }

    /** The steps tell the row of the gray parts. */
    private static String sweep(StringShed x) {
        StringBuilder trace = new StringBuilder();
        for (int i = 0; i < 30 && x.about(8) == 1; i++) {
            add(trace, "step", x::step);
        }
        addAbouts(trace, x);
        add(trace, "make", () -> x.make(1));
        return trace.toString();
    }

    private static String past(StringShed x) {
        StringBuilder trace = new StringBuilder();
        for (int i = 0; i < 16; i++) {
            add(trace, "undo", x::undo);
            addAbouts(trace, x);
        }
        return trace.toString();
    }

    private static String pastInDetail(StringShed x) {
        StringBuilder trace = new StringBuilder();
        for (int i = 0; i < 16; i++) {
            add(trace, "undo", x::undo);
            for (int k = 0; k < 4; k++) {
                int p = k;
                add(trace, "part " + p, () -> x.part(p, 6));
            }
            add(trace, "stringAt", () -> x.stringAt(x.about(3) / 2));
        }
        return trace.toString();
    }

    private static String slot(StringShed x, int slot) {
        StringBuilder trace = new StringBuilder();
        add(trace, "restore " + slot, () -> x.restore(slot));
        trace.append(look(x));
        return trace.toString();
    }

    private static String text(StringShed x) {
        StringBuilder trace = new StringBuilder();
        add(trace, "errorPosition", x::errorPosition);
        add(trace, "load", x::load);
        addAbouts(trace, x);
        add(trace, "append", () -> x.append('n'));
        add(trace, "errorPosition", x::errorPosition);
        add(trace, "clearText", x::clearText);
        return trace.toString();
    }
}
