import java.util.ArrayList;
import java.util.List;

/** Long runs of calls, the same ones at a StringShed and at the Model; the numbers come from a fixed row. */
public final class ModelTest {
    private static final int RUNS = 60;
    private static final int CALLS = 512;
    private static final int[] FAR = {-5, 24, 25, -100, Integer.MAX_VALUE, Integer.MIN_VALUE, 1 << 5, 28, -9};
    private static final String CHARS = "SSSnnntttthhhpxfmbs0123456789012301230123";

    private static long row;
    /** The parts that are there: most calls are about them. */
    private static List<Integer> there = new ArrayList<>();
    private static int sweepOdds;

    public static void main(String[] args) {
        for (int run = 0; run < RUNS && Check.allRight(); run++) {
            row = run * 77L + 5;
            run(run);
        }
        Check.end();
    }

    private static int random(int below) {
        row = row * 6364136223846793005L + 1442695040888963407L;
        return (int) ((row >>> 33) % below);
    }

    private static void run(int run) {
        StringShed x = new StringShed();
        Model m = new Model();
        int parts = 3 + random(22);
        int odds = 20 + random(40);
        sweepOdds = 1 + random(4) * 8;
        for (int i = 0; i < CALLS && Check.allRight(); i++) {
            there = partsOf(x);
            int kind = random(100) < odds ? random(12) : 12 + random(21);
            call("run " + run + " call " + i, x, m, kind, parts);
            if (i % 16 == 0) {
                lookAtAll("run " + run + " after call " + i, x, m);
            }
        }
    }

    private static List<Integer> partsOf(StringShed x) {
        List<Integer> parts = new ArrayList<>();
        for (int p = 0; p < 24; p++) {
            int q = p;
            if (answer(() -> x.part(q, 0)).length() == 1) {
                parts.add(p);
            }
        }
        return parts;
    }

    private static int place(int parts) {
        if (there.isEmpty() || random(20) == 0) {
            return random(3) == 0 ? FAR[random(FAR.length)] : random(parts);
        }
        return there.get(random(there.size()));
    }

    private static int thing(int parts) {
        return random(5) == 0 ? -1 - random(4) : place(parts);
    }

    private static void both(String call, Check.Call at, Check.Call model) {
        Check.compare(call, answer(model), answer(at));
    }

    private static String answer(Check.Call call) {
        try {
            return Long.toString(call.answer());
        } catch (RuntimeException e) {
            return e.getClass().getSimpleName();
        }
    }

    private static void call(String n, StringShed x, Model m, int kind, int parts) {
        if (kind < 12) {
            tieOrMake(n, x, m, kind, parts);
        } else if (kind < 22) {
            act(n, x, m, kind, parts);
        } else {
            other(n, x, m, kind, parts);
        }
    }

    private static void tieOrMake(String n, StringShed x, Model m, int kind, int parts) {
        int a = thing(parts);
        int p = place(parts);
        boolean sound = random(5) != 0;
        if (there.size() > 8 && random(12) == 0) {
            int under = random(23);
            both(n + " chain", () -> x.tie(under, under + 1, true), () -> m.tie(under, under + 1, true));
        }
        if (kind < 4 && x.about(1) < parts || there.isEmpty() && random(2) == 0) {
            int w = random(30) == 0 ? random(3) * 10 - 10 : 1 + random(9);
            both(n + " make " + w, () -> x.make(w), () -> m.make(w));
        } else {
            both(n + " tie " + a + " " + p + " " + sound, () -> x.tie(a, p, sound), () -> m.tie(a, p, sound));
        }
    }

    /** Mostly a string that is there, so that it can be cut. */
    private static int[] someString(StringShed x, int parts) {
        int code = random(8) == 0 ? -9 : x.stringAt(random(Math.max(1, x.about(3))));
        return code == -9 ? new int[] {thing(parts), place(parts)} : new int[] {code / 100 - 4, code % 100};
    }

    private static void act(String n, StringShed x, Model m, int kind, int parts) {
        int[] s = someString(x, parts);
        int a = s[0];
        int b = s[1];
        int p = place(parts);
        boolean is = random(3) == 0;
        switch (kind) {
            case 12 -> both(n + " cut " + a + " " + b, () -> x.cut(a, b), () -> m.cut(a, b));
            case 13 -> both(n + " fray " + a + " " + b, () -> x.fray(a, b), () -> m.fray(a, b));
            case 14 -> both(n + " mend " + a + " " + b, () -> x.mend(a, b), () -> m.mend(a, b));
            case 15 -> both(n + " pin " + p + " " + is, () -> x.pin(p, is), () -> m.pin(p, is));
            case 16 -> {
                if (random(32) < sweepOdds) {
                    both(n + " begin", x::begin, m::begin);
                }
            }
            case 17, 18, 19 -> {
                if (x.about(8) == 1 || random(10) == 0) {
                    both(n + " step", x::step, m::step);
                }
            }
            case 20 -> both(n + " undo", x::undo, m::undo);
            default -> both(n + " falls " + a + " " + b, () -> x.falls(a, b), () -> m.falls(a, b));
        }
    }

    private static void other(String n, StringShed x, Model m, int kind, int parts) {
        int slot = random(20) == 0 ? FAR[random(FAR.length)] : random(2);
        switch (kind) {
            case 22 -> both(n + " save " + slot, () -> x.save(slot), () -> m.save(slot));
            case 23 -> {
                if (random(4) == 0) {
                    both(n + " restore " + slot, () -> x.restore(slot), () -> m.restore(slot));
                }
            }
            case 24 -> text(n, x, m);
            case 25, 26 -> script(n, x, m, parts);
            case 27 -> {
                long seed = row;
                int turns = random(30) == 0 ? random(2) * 201 : 1 + random(200);
                both(n + " simulate " + seed + " " + turns, () -> x.simulate(seed, turns), () -> m.simulate(seed, turns));
            }
            default -> ask(n, x, m, kind, parts);
        }
    }

    private static void ask(String n, StringShed x, Model m, int kind, int parts) {
        int p = place(parts);
        int a = thing(parts);
        int i = random(14) - 1;
        switch (kind) {
            case 28 -> both(n + " part " + p + " " + i, () -> x.part(p, i), () -> m.part(p, i));
            case 29 -> both(n + " string " + a + " " + p, () -> x.string(a, p), () -> m.string(a, p));
            case 30 -> both(n + " way " + p + " " + i, () -> x.way(p, i), () -> m.way(p, i));
            case 31 -> both(n + " cuts " + p, () -> x.cuts(p), () -> m.cuts(p));
            default -> both(n + " about " + i, () -> x.about(i), () -> m.about(i));
        }
    }

    private static void text(String n, StringShed x, Model m) {
        String text = random(3) == 0 ? noise() : commands();
        for (int i = 0; i < text.length(); i++) {
            int c = text.charAt(i);
            both(n + " append " + c, () -> x.append(c), () -> m.append(c));
        }
        both(n + " errorPosition", x::errorPosition, m::errorPosition);
        if (random(5) == 0) {
            both(n + " load", x::load, m::load);
        }
        if (random(3) != 0) {
            both(n + " clearText", x::clearText, m::clearText);
        }
    }

    private static String noise() {
        StringBuilder text = new StringBuilder("S");
        for (int i = random(12); i > 0; i--) {
            text.append(random(30) == 0 ? (char) random(256) : CHARS.charAt(random(CHARS.length())));
        }
        return text.toString();
    }

    private static String commands() {
        StringBuilder text = new StringBuilder("S");
        int made = 2 + random(9);
        for (int i = 0; i < made; i++) {
            text.append('n').append(1 + random(9));
        }
        while (text.length() < 110) {
            char letter = "tttttttxfmpbsss".charAt(random(15));
            text.append(letter);
            if ("txfm".indexOf(letter) >= 0) {
                text.append(random(3) == 0 ? "h" + random(4) : String.format("%02d", random(made + 1)));
            }
            if ("txfmp".indexOf(letter) >= 0) {
                text.append(String.format("%02d", random(made + 1)));
            }
        }
        return text.toString();
    }

    private static void script(String n, StringShed x, Model m, int parts) {
        int count = 1 + random(3);
        long number = 0;
        for (int i = 0; i < count; i++) {
            number = number * 100000 + group(parts);
        }
        long script = random(40) == 0 ? row >> random(40) : number;
        int commands = random(40) == 0 ? random(6) - 1 : count;
        both(n + " runScript " + commands + " " + script,
            () -> x.runScript(commands, script), () -> m.runScript(commands, script));
    }

    private static int group(int parts) {
        int aa = random(2) == 0 ? 90 + random(5) : random(parts + 1);
        int pp = random(parts + 1);
        return switch (random(12)) {
            case 0 -> 10000 + random(11);
            case 1, 2 -> 20000 + 100 * aa + pp;
            case 3 -> 30000 + 100 * aa + pp;
            case 4 -> 40000 + 100 * random(3) + pp;
            case 5 -> 50000 + random(50) / 49;
            case 6 -> 60000 + random(12);
            case 7, 8 -> 70000 + 100 * pp + random(2) + random(50) / 49;
            case 9 -> 80000 + 100 * pp + random(5);
            case 10 -> 90000 + random(120);
            default -> random(100000);
        };
    }

    /** All that can be asked, which changes nothing. */
    private static void lookAtAll(String n, StringShed x, Model m) {
        List<String> got = new ArrayList<>();
        List<String> due = new ArrayList<>();
        for (int i = -1; i <= 12; i++) {
            int what = i;
            got.add("about " + i + " " + answer(() -> x.about(what)));
            due.add("about " + i + " " + answer(() -> m.about(what)));
        }
        for (int i = 0; i <= 40; i++) {
            int place = i;
            got.add("stringAt " + i + " " + answer(() -> x.stringAt(place)));
            due.add("stringAt " + i + " " + answer(() -> m.stringAt(place)));
        }
        for (int i = 0; i < 24; i++) {
            int p = i;
            for (int k = 0; k <= 7; k++) {
                int what = k;
                got.add("part " + p + " " + k + " " + answer(() -> x.part(p, what)));
                due.add("part " + p + " " + k + " " + answer(() -> m.part(p, what)));
                got.add("way " + p + " " + k + " " + answer(() -> x.way(p, what)));
                due.add("way " + p + " " + k + " " + answer(() -> m.way(p, what)));
            }
            got.add("cuts " + p + " " + answer(() -> x.cuts(p)));
            due.add("cuts " + p + " " + answer(() -> m.cuts(p)));
            for (int k = -4; k < 24; k++) {
                int a = k;
                got.add("falls " + a + " " + p + " " + answer(() -> x.falls(a, p)));
                due.add("falls " + a + " " + p + " " + answer(() -> m.falls(a, p)));
            }
        }
        for (int i = 0; i < due.size(); i++) {
            Check.compare(n, due.get(i), got.get(i));
        }
        both(n + " heaviest", x::heaviest, m::heaviest);
        both(n + " rings", x::rings, m::rings);
        both(n + " takes", x::takes, m::takes);
        both(n + " spares", x::spares, m::spares);
        both(n + " errorPosition", x::errorPosition, m::errorPosition);
    }
}
