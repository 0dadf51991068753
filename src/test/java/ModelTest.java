import java.util.ArrayList;
import java.util.List;

/**
 * Long runs of calls, the same ones at a StringShed and at the Model; the numbers come from a fixed row.
 * What an object answers after its 512th call is free: so the Model tells what to call next, and the looks at
 * everything between the calls are at other objects, at which the calls so far are made again.
 */
public final class ModelTest {
    private static final int RUNS = 120;
    private static final int CALLS = 512;
    private static final int[] FAR = {-5, 24, 25, -100, Integer.MAX_VALUE, Integer.MIN_VALUE, 1 << 5, 28, -9};
    private static final String CHARS = "SSSnnntttthhhpxfmbs0123456789012301230123";

    private interface On {
        long call(StringShed x);
    }

    private interface OnModel {
        long call(Model m);
    }

    private record Question(String text, On on, OnModel onModel) {
    }

    private static long row;
    private static int run;
    private static StringShed shed;
    private static Model model;
    /** The calls made at the shed so far. */
    private static final List<On> made = new ArrayList<>();
    /** The parts that are there: most calls are about them. */
    private static List<Integer> there = new ArrayList<>();
    private static int sweepOdds;

    public static void main(String[] args) {
        for (run = 0; run < RUNS && Check.allRight(); run++) {
            row = run * 77L + 5;
            run();
        }
        Check.end();
    }

    private static int random(int below) {
        row = row * 6364136223846793005L + 1442695040888963407L;
        return (int) ((row >>> 33) % below);
    }

    private static void run() {
        shed = new StringShed();
        model = new Model();
        made.clear();
        int parts = 3 + random(22);
        int odds = 20 + random(40);
        int lookAfter = 16;
        sweepOdds = 1 + random(4) * 8;
        // A turn makes no call now and then.
        for (int turn = 0; turn < 2 * CALLS && made.size() < CALLS && Check.allRight(); turn++) {
            there = partsOf();
            int kind = random(100) < odds ? random(12) : 12 + random(21);
            call(kind, parts);
            if (made.size() >= lookAfter) {
                lookAtAll();
                lookAfter += 16;
            }
        }
    }

    private static List<Integer> partsOf() {
        List<Integer> parts = new ArrayList<>();
        for (int p = 0; p < 24; p++) {
            int q = p;
            if (answer(() -> model.part(q, 0)).length() == 1) {
                parts.add(p);
            }
        }
        return parts;
    }

    private static int place(int parts) {
        if (there.isEmpty() || random(20) == 0) {
            return random(3) == 0 ? FAR[random(FAR.length)] : random(parts);
        }
        return there.get(random(there.size()));
    }

    private static int thing(int parts) {
        return random(5) == 0 ? -1 - random(4) : place(parts);
    }

    private static void both(String text, On on, OnModel onModel) {
        if (made.size() < CALLS) {
            compare(new Question(text, on, onModel), shed);
            made.add(on);
        }
    }

    private static void compare(Question question, StringShed at) {
        String due = answer(() -> question.onModel.call(model));
        String got = answer(() -> question.on.call(at));
        Check.compare("run " + run + " after " + made.size() + " calls: " + question.text, due, got);
    }

    private static String answer(Check.Call call) {
        try {
            return Long.toString(call.answer());
        } catch (RuntimeException e) {
            return e.getClass().getSimpleName();
        }
    }

    private static StringShed madeAgain() {
        StringShed again = new StringShed();
        for (On on : made) {
            answer(() -> on.call(again));
        }
        return again;
    }

    private static void call(int kind, int parts) {
        if (kind < 12) {
            tieOrMake(kind, parts);
        } else if (kind < 22) {
            act(kind, parts);
        } else {
            other(kind, parts);
        }
    }

    private static void tieOrMake(int kind, int parts) {
        int a = thing(parts);
        int p = place(parts);
        boolean sound = random(5) != 0;
        if (there.size() > 8 && random(12) == 0) {
            int under = random(23);
            both("tie " + under + " " + (under + 1) + " true", x -> x.tie(under, under + 1, true), m -> m.tie(under, under + 1, true));
        }
        if (kind < 4 && model.about(1) < parts || there.isEmpty() && random(2) == 0) {
            int w = random(30) == 0 ? random(3) * 10 - 10 : 1 + random(9);
            both("make " + w, x -> x.make(w), m -> m.make(w));
        } else {
            both("tie " + a + " " + p + " " + sound, x -> x.tie(a, p, sound), m -> m.tie(a, p, sound));
        }
    }

    /** Mostly a string that is there, so that it can be cut. */
    private static int[] someString(int parts) {
        int code = random(8) == 0 ? -9 : model.stringAt(random(Math.max(1, model.about(3))));
        return code == -9 ? new int[] {thing(parts), place(parts)} : new int[] {code / 100 - 4, code % 100};
    }

    private static void act(int kind, int parts) {
        int[] s = someString(parts);
        int a = s[0];
        int b = s[1];
        int p = place(parts);
        boolean is = random(3) == 0;
        switch (kind) {
            case 12 -> both("cut " + a + " " + b, x -> x.cut(a, b), m -> m.cut(a, b));
            case 13 -> both("fray " + a + " " + b, x -> x.fray(a, b), m -> m.fray(a, b));
            case 14 -> both("mend " + a + " " + b, x -> x.mend(a, b), m -> m.mend(a, b));
            case 15 -> both("pin " + p + " " + is, x -> x.pin(p, is), m -> m.pin(p, is));
            case 16 -> {
                if (random(32) < sweepOdds) {
                    both("begin", StringShed::begin, Model::begin);
                }
            }
            case 17, 18, 19 -> {
                if (model.about(8) == 1 || random(10) == 0) {
                    both("step", StringShed::step, Model::step);
                }
            }
            case 20 -> both("undo", StringShed::undo, Model::undo);
            default -> both("falls " + a + " " + b, x -> x.falls(a, b), m -> m.falls(a, b));
        }
    }

    private static void other(int kind, int parts) {
        int slot = random(20) == 0 ? FAR[random(FAR.length)] : random(2);
        switch (kind) {
            case 22 -> both("save " + slot, x -> x.save(slot), m -> m.save(slot));
            case 23 -> {
                if (random(4) == 0) {
                    both("restore " + slot, x -> x.restore(slot), m -> m.restore(slot));
                }
            }
            case 24 -> {
                // A text takes many calls.
                if (random(4) == 0) {
                    text();
                }
            }
            case 25, 26 -> script(parts);
            case 27 -> {
                long seed = row;
                int turns = random(30) == 0 ? random(2) * 201 : 1 + random(200);
                both("simulate " + seed + " " + turns, x -> x.simulate(seed, turns), m -> m.simulate(seed, turns));
            }
            default -> ask(kind, parts);
        }
    }

    private static void ask(int kind, int parts) {
        int p = place(parts);
        int a = thing(parts);
        int i = random(14) - 1;
        switch (kind) {
            case 28 -> both("part " + p + " " + i, x -> x.part(p, i), m -> m.part(p, i));
            case 29 -> both("string " + a + " " + p, x -> x.string(a, p), m -> m.string(a, p));
            case 30 -> both("way " + p + " " + i, x -> x.way(p, i), m -> m.way(p, i));
            case 31 -> both("cuts " + p, x -> x.cuts(p), m -> m.cuts(p));
            default -> both("about " + i, x -> x.about(i), m -> m.about(i));
        }
    }

    private static void text() {
        String text = random(3) == 0 ? noise() : commands();
        for (int i = 0; i < text.length(); i++) {
            int c = text.charAt(i);
            both("append " + c, x -> x.append(c), m -> m.append(c));
        }
        both("errorPosition", StringShed::errorPosition, Model::errorPosition);
        if (random(3) == 0) {
            both("load", StringShed::load, Model::load);
        }
        if (random(3) != 0) {
            both("clearText", StringShed::clearText, Model::clearText);
        }
    }

    private static String noise() {
        StringBuilder text = new StringBuilder("S");
        for (int i = random(12); i > 0; i--) {
            text.append(random(30) == 0 ? (char) random(256) : CHARS.charAt(random(CHARS.length())));
        }
        return text.toString();
    }

    private static String commands() {
        StringBuilder text = new StringBuilder("S");
        int made = 2 + random(9);
        for (int i = 0; i < made; i++) {
            text.append('n').append(1 + random(9));
        }
        while (text.length() < 110) {
            char letter = "tttttttxfmpbsss".charAt(random(15));
            text.append(letter);
            if ("txfm".indexOf(letter) >= 0) {
                text.append(random(3) == 0 ? "h" + random(4) : String.format("%02d", random(made + 1)));
            }
            if ("txfmp".indexOf(letter) >= 0) {
                text.append(String.format("%02d", random(made + 1)));
            }
        }
        return text.toString();
    }

    private static void script(int parts) {
        int count = 1 + random(3);
        long number = 0;
        for (int i = 0; i < count; i++) {
            number = number * 100000 + group(parts);
        }
        long script = random(40) == 0 ? row >> random(40) : number;
        int commands = random(40) == 0 ? random(6) - 1 : count;
        both("runScript " + commands + " " + script,
            x -> x.runScript(commands, script), m -> m.runScript(commands, script));
    }

    private static int group(int parts) {
        int aa = random(2) == 0 ? 90 + random(5) : random(parts + 1);
        int pp = random(parts + 1);
        return switch (random(12)) {
            case 0 -> 10000 + random(11);
            case 1, 2 -> 20000 + 100 * aa + pp;
            case 3 -> 30000 + 100 * aa + pp;
            case 4 -> 40000 + 100 * random(3) + pp;
            case 5 -> 50000 + random(50) / 49;
            case 6 -> 60000 + random(12);
            case 7, 8 -> 70000 + 100 * pp + random(2) + random(50) / 49;
            case 9 -> 80000 + 100 * pp + random(5);
            case 10 -> 90000 + random(120);
            default -> random(100000);
        };
    }

    /** Asks all that can be asked, at as many objects as it takes. */
    private static void lookAtAll() {
        List<Question> questions = questions();
        int many = CALLS - made.size();
        StringShed again = null;
        for (int i = 0; i < questions.size() && many >= 64; i++) {
            again = i % many == 0 ? madeAgain() : again;
            compare(questions.get(i), again);
        }
    }

    /** All that can be asked, which changes nothing. */
    private static List<Question> questions() {
        List<Question> all = new ArrayList<>();
        for (int i = -1; i <= 12; i++) {
            int what = i;
            all.add(new Question("about " + i, x -> x.about(what), m -> m.about(what)));
        }
        for (int i = 0; i <= 40; i++) {
            int place = i;
            all.add(new Question("stringAt " + i, x -> x.stringAt(place), m -> m.stringAt(place)));
        }
        for (int p = 0; p < 24; p++) {
            addQuestions(all, p);
        }
        all.add(new Question("heaviest", StringShed::heaviest, Model::heaviest));
        all.add(new Question("rings", StringShed::rings, Model::rings));
        all.add(new Question("takes", StringShed::takes, Model::takes));
        all.add(new Question("spares", StringShed::spares, Model::spares));
        all.add(new Question("errorPosition", StringShed::errorPosition, Model::errorPosition));
        return all;
    }

    private static void addQuestions(List<Question> all, int p) {
        for (int k = 0; k <= 7; k++) {
            int i = k;
            all.add(new Question("part " + p + " " + k, x -> x.part(p, i), m -> m.part(p, i)));
            all.add(new Question("way " + p + " " + k, x -> x.way(p, i), m -> m.way(p, i)));
        }
        all.add(new Question("cuts " + p, x -> x.cuts(p), m -> m.cuts(p)));
        for (int k = -4; k < 24; k++) {
            int a = k;
            all.add(new Question("falls " + a + " " + p, x -> x.falls(a, p), m -> m.falls(a, p)));
        }
    }
}
