import java.util.ArrayDeque;
import java.util.ArrayList;
import java.util.List;
import java.util.regex.Matcher;
import java.util.regex.Pattern;

/** Another shed, written as near to the words of the document as it goes, and slowly. */
final class Model {
    static final int NONE = -9;

    private static final Pattern SHED = Pattern.compile(
        "S(n[1-9]|[txfm](h[0-3]|[01][0-9]|2[0-3])([01][0-9]|2[0-3])|p([01][0-9]|2[0-3])|b|s)*");
    private static final Pattern COMMAND = Pattern.compile("[ntxfmpbs][h0-9]*");

    private static final class Part {
        int number;
        int weight;
        boolean pinned;
        int colour = NONE;
    }

    private static final class Tie {
        int above;
        int below;
        boolean sound;
    }

    private static final class State {
        List<Part> parts = new ArrayList<>();
        List<Tie> ties = new ArrayList<>();
        List<Integer> row = new ArrayList<>();
        boolean sweep;
        int made;
        int swept;
        int ended;
        int gone;

        State copy() {
            State s = new State();
            for (Part p : parts) {
                Part q = new Part();
                q.number = p.number;
                q.weight = p.weight;
                q.pinned = p.pinned;
                q.colour = p.colour;
                s.parts.add(q);
            }
            for (Tie t : ties) {
                s.ties.add(tieOf(t.above, t.below, t.sound));
            }
            s.row.addAll(row);
            s.sweep = sweep;
            s.made = made;
            s.swept = swept;
            s.ended = ended;
            s.gone = gone;
            return s;
        }
    }

    private State s = new State();
    private final ArrayDeque<State> past = new ArrayDeque<>();
    private final State[] slots = new State[2];
    private String text = "";

    private static Tie tieOf(int above, int below, boolean sound) {
        Tie t = new Tie();
        t.above = above;
        t.below = below;
        t.sound = sound;
        return t;
    }

    private Part find(int p) {
        for (Part q : s.parts) {
            if (q.number == p) {
                return q;
            }
        }
        return null;
    }

    private Part need(int p) {
        Part q = find(p);
        if (q == null) {
            throw new IndexOutOfBoundsException();
        }
        return q;
    }

    private void needThing(int above) {
        if (above < -4 || above > -1) {
            need(above);
        }
    }

    private Tie findTie(int above, int p) {
        for (Tie t : s.ties) {
            if (t.above == above && t.below == p) {
                return t;
            }
        }
        return null;
    }

    private Tie needTie(int above, int p) {
        needThing(above);
        need(p);
        Tie t = findTie(above, p);
        if (t == null) {
            throw new IndexOutOfBoundsException();
        }
        return t;
    }

    /** The depths of the parts by their numbers, NONE for those that are not held. */
    private int[] depths() {
        int[] depth = new int[24];
        java.util.Arrays.fill(depth, 999);
        for (Part p : s.parts) {
            if (p.pinned) {
                depth[p.number] = 0;
            }
        }
        for (int n = 0; n < 30; n++) {
            for (Tie t : s.ties) {
                if (t.sound) {
                    int from = t.above < 0 ? 0 : depth[t.above];
                    depth[t.below] = Math.min(depth[t.below], from + 1);
                }
            }
        }
        for (int p = 0; p < 24; p++) {
            depth[p] = depth[p] >= 999 ? NONE : depth[p];
        }
        return depth;
    }

    private boolean isHeld(int p) {
        return depths()[p] != NONE;
    }

    private int heldCount() {
        int n = 0;
        for (int d : depths()) {
            n += d == NONE ? 0 : 1;
        }
        return n;
    }

    private int heldWeight() {
        int[] depth = depths();
        int sum = 0;
        for (Part p : s.parts) {
            sum += depth[p.number] == NONE ? 0 : p.weight;
        }
        return sum;
    }

    private void remember() {
        past.addLast(s.copy());
        if (past.size() > 14) {
            past.removeFirst();
        }
    }

    // ---- the face

    int append(int c) {
        if (c < 0 || c > 255) {
            throw new IllegalArgumentException();
        }
        if (text.length() == 120) {
            throw new IllegalStateException();
        }
        text += (char) c;
        return text.length();
    }

    int clearText() {
        int n = text.length();
        text = "";
        return n;
    }

    int errorPosition() {
        if (SHED.matcher(text).matches()) {
            return NONE;
        }
        for (int n = 1; n <= text.length(); n++) {
            Matcher m = SHED.matcher(text.substring(0, n));
            if (!m.matches() && !m.hitEnd()) {
                return n - 1;
            }
        }
        return text.length();
    }

    int load() {
        if (errorPosition() != NONE) {
            throw new IllegalStateException();
        }
        s = new State();
        slots[0] = null;
        slots[1] = null;
        int out = 0;
        Matcher m = COMMAND.matcher(text);
        while (m.find()) {
            try {
                command(m.group());
            } catch (RuntimeException e) {
                out++;
            }
        }
        past.clear();
        return out;
    }

    private void command(String c) {
        int above = 0;
        int p = 0;
        if (c.length() == 5) {
            above = c.charAt(1) == 'h' ? -1 - (c.charAt(2) - '0') : Integer.parseInt(c.substring(1, 3));
            p = Integer.parseInt(c.substring(3));
        }
        switch (c.charAt(0)) {
            case 'n' -> make(c.charAt(1) - '0');
            case 't' -> tie(above, p, true);
            case 'x' -> cut(above, p);
            case 'f' -> fray(above, p);
            case 'm' -> mend(above, p);
            case 'p' -> pin(Integer.parseInt(c.substring(1)), !need(Integer.parseInt(c.substring(1))).pinned);
            case 'b' -> begin();
            default -> step();
        }
    }

    int about(int what) {
        int frayed = 0;
        for (Tie t : s.ties) {
            frayed += t.sound ? 0 : 1;
        }
        int pinned = 0;
        for (Part p : s.parts) {
            pinned += p.pinned ? 1 : 0;
        }
        int deepest = NONE;
        for (int d : depths()) {
            deepest = Math.max(deepest, d);
        }
        int[] all = {s.parts.size(), s.made, s.swept, s.ties.size(), frayed, pinned, heldCount(), heldWeight(),
            s.sweep ? 1 : 0, s.ended, s.gone, deepest};
        if (what < 0 || what >= all.length) {
            throw new IllegalArgumentException();
        }
        return all[what];
    }

    int part(int p, int what) {
        Part q = need(p);
        int to = 0;
        int under = 0;
        for (Tie t : s.ties) {
            to += t.sound && t.below == p ? 1 : 0;
            under += t.above == p ? 1 : 0;
        }
        int[] all = {q.weight, q.pinned ? 1 : 0, isHeld(p) ? 1 : 0, depths()[p], to, under, s.sweep ? q.colour : NONE};
        if (what < 0 || what >= all.length) {
            throw new IllegalArgumentException();
        }
        return all[what];
    }

    int string(int above, int p) {
        needThing(above);
        need(p);
        Tie t = findTie(above, p);
        return t == null ? 0 : t.sound ? 1 : 2;
    }

    int stringAt(int i) {
        if (i < 0) {
            throw new IllegalArgumentException();
        }
        return i >= s.ties.size() ? NONE : 100 * (4 + s.ties.get(i).above) + s.ties.get(i).below;
    }

    int make(int weight) {
        if (weight < 1 || weight > 9) {
            throw new IllegalArgumentException();
        }
        if (s.made == 24) {
            throw new IllegalStateException();
        }
        remember();
        Part p = new Part();
        p.number = s.made++;
        p.weight = weight;
        p.colour = s.sweep ? 2 : NONE;
        s.parts.add(p);
        return p.number;
    }

    private void gray(int p) {
        Part q = find(p);
        if (s.sweep && q != null && q.colour == 0) {
            q.colour = 1;
            s.row.add(p);
        }
    }

    private void grayUnder(Tie t) {
        if (s.sweep && t.sound && (t.above < 0 || find(t.above).colour == 2)) {
            gray(t.below);
        }
    }

    int tie(int above, int p, boolean sound) {
        needThing(above);
        need(p);
        if (above == p) {
            throw new IllegalArgumentException();
        }
        if (findTie(above, p) != null || s.ties.size() >= 40) {
            throw new IllegalStateException();
        }
        remember();
        Tie t = tieOf(above, p, sound);
        s.ties.add(t);
        grayUnder(t);
        return s.ties.size();
    }

    int cut(int above, int p) {
        Tie t = needTie(above, p);
        remember();
        int before = heldCount();
        s.ties.remove(t);
        return before - heldCount();
    }

    int fray(int above, int p) {
        Tie t = needTie(above, p);
        if (!t.sound) {
            throw new IllegalStateException();
        }
        remember();
        int before = heldCount();
        t.sound = false;
        return before - heldCount();
    }

    int mend(int above, int p) {
        Tie t = needTie(above, p);
        if (t.sound) {
            throw new IllegalStateException();
        }
        remember();
        int before = heldCount();
        t.sound = true;
        grayUnder(t);
        return heldCount() - before;
    }

    int pin(int p, boolean is) {
        Part q = need(p);
        remember();
        q.pinned = is;
        if (is) {
            gray(p);
        }
        return heldCount();
    }

    int begin() {
        if (s.sweep) {
            throw new IllegalStateException();
        }
        remember();
        s.sweep = true;
        for (Part p : s.parts) {
            p.colour = 0;
        }
        for (Part p : s.parts) {
            boolean first = p.pinned;
            for (Tie t : s.ties) {
                first |= t.sound && t.above < 0 && t.below == p.number;
            }
            if (first) {
                gray(p.number);
            }
        }
        return s.row.size();
    }

    int step() {
        if (!s.sweep) {
            throw new IllegalStateException();
        }
        remember();
        if (!s.row.isEmpty()) {
            int p = s.row.remove(0);
            find(p).colour = 2;
            for (Tie t : s.ties) {
                if (t.above == p && t.sound) {
                    gray(t.below);
                }
            }
            return p;
        }
        int parts = s.parts.size();
        int ties = s.ties.size();
        s.parts.removeIf(p -> p.colour == 0);
        s.ties.removeIf(t -> find(t.below) == null || t.above >= 0 && find(t.above) == null);
        s.sweep = false;
        s.ended++;
        s.gone += ties - s.ties.size();
        s.swept += parts - s.parts.size();
        return NONE - (parts - s.parts.size());
    }

    int undo() {
        if (past.isEmpty()) {
            throw new IllegalStateException();
        }
        s = past.removeLast();
        return past.size();
    }

    int falls(int above, int p) {
        Tie t = needTie(above, p);
        State kept = s;
        int before = heldWeight();
        s = s.copy();
        s.ties.remove(findTie(t.above, t.below));
        int after = heldWeight();
        s = kept;
        return before - after;
    }

    int cuts(int p) {
        if (need(p).pinned) {
            return NONE;
        }
        State kept = s;
        s = s.copy();
        int n = 0;
        while (!canDrop(p, n)) {
            n++;
        }
        s = kept;
        return n;
    }

    /** Whether so many cuts let the part fall: one of them must be on each way down to it. */
    private boolean canDrop(int p, int n) {
        List<Integer> way = wayTo(p);
        if (way == null) {
            return true;
        }
        for (int i = 1; n > 0 && i < way.size(); i++) {
            Tie t = findTie(way.get(i - 1), way.get(i));
            t.sound = false;
            boolean drops = canDrop(p, n - 1);
            t.sound = true;
            if (drops) {
                return true;
            }
        }
        return false;
    }

    int heaviest() {
        int best = NONE;
        int most = -1;
        for (int i = 0; i < s.ties.size(); i++) {
            int w = falls(s.ties.get(i).above, s.ties.get(i).below);
            if (w > most) {
                most = w;
                best = stringAt(i);
            }
        }
        return best;
    }

    int rings() {
        int n = 0;
        for (Part p : s.parts) {
            n += !isHeld(p.number) && leads(p.number, p.number, new boolean[24]) ? 1 : 0;
        }
        return n;
    }

    private boolean leads(int from, int to, boolean[] seen) {
        for (Tie t : s.ties) {
            if (t.sound && t.above == from) {
                if (t.below == to) {
                    return true;
                }
                if (!seen[t.below]) {
                    seen[t.below] = true;
                    if (leads(t.below, to, seen)) {
                        return true;
                    }
                }
            }
        }
        return false;
    }

    int takes() {
        Model m = copy();
        if (!m.s.sweep) {
            m.begin();
        }
        while (m.s.sweep) {
            m.step();
        }
        return m.s.swept - s.swept;
    }

    int spares() {
        if (!s.sweep) {
            return 0;
        }
        Model m = copy();
        while (m.s.sweep) {
            m.step();
        }
        int n = 0;
        for (Part p : m.s.parts) {
            n += isHeld(p.number) ? 0 : 1;
        }
        return n;
    }

    int way(int p, int i) {
        need(p);
        if (i < 0) {
            throw new IllegalArgumentException();
        }
        List<Integer> way = wayTo(p);
        return way == null || i >= way.size() ? NONE : way.get(i);
    }

    /** Of all ways as short as can be, the first one, by the strings from below upwards. */
    private List<Integer> wayTo(int p) {
        int depth = depths()[p];
        return depth == NONE ? null : wayOf(p, depth);
    }

    private List<Integer> wayOf(int thing, int length) {
        if (length == 0) {
            if (thing >= 0 && !find(thing).pinned) {
                return null;
            }
            List<Integer> way = new ArrayList<>();
            way.add(thing);
            return way;
        }
        for (Tie t : s.ties) {
            if (t.sound && t.below == thing) {
                List<Integer> way = wayOf(t.above, length - 1);
                if (way != null) {
                    way.add(thing);
                    return way;
                }
            }
        }
        return null;
    }

    private Model copy() {
        Model m = new Model();
        m.s = s.copy();
        return m;
    }

    int runScript(int n, long script) {
        if (n < 1 || n > 3 || script < 0 || Long.toString(script).length() > 5 * n) {
            throw new IllegalArgumentException();
        }
        Model m = copy();
        String digits = "0".repeat(5 * n - Long.toString(script).length()) + script;
        for (int i = 0; i < n; i++) {
            boolean fine;
            try {
                fine = m.group(digits.substring(5 * i, 5 * i + 5));
            } catch (RuntimeException e) {
                fine = false;
            }
            if (!fine) {
                return i;
            }
        }
        return NONE;
    }

    private boolean group(String g) {
        int upper = Integer.parseInt(g.substring(1, 3));
        int lower = Integer.parseInt(g.substring(3));
        int thing = upper < 24 ? upper : upper >= 90 && upper <= 93 ? -(upper - 90) - 1 : 77;
        if (g.matches("1000[1-9]")) {
            make(lower);
        } else if (g.startsWith("2")) {
            tie(thing, lower, true);
        } else if (g.startsWith("3")) {
            cut(thing, lower);
        } else if (g.matches("40[01]..")) {
            pin(lower, upper == 0);
        } else if (g.equals("50000")) {
            begin();
        } else if (g.matches("600(0[1-9]|[1-9].)")) {
            step();
            for (int i = 1; i < lower && s.sweep; i++) {
                step();
            }
        } else if (g.matches("7..0[01]")) {
            need(upper);
            return isHeld(upper) == (lower == 1);
        } else if (g.startsWith("8")) {
            need(upper);
            return isHeld(upper) && depths()[upper] <= lower;
        } else if (g.startsWith("90")) {
            return heldWeight() <= Integer.parseInt(g.substring(2));
        } else {
            return false;
        }
        return true;
    }

    int simulate(long seed, int m) {
        if (m < 1 || m > 200) {
            throw new IllegalArgumentException();
        }
        Model copy = copy();
        long x = seed;
        for (int i = 0; i < m; i++) {
            x = x * 6364136223846793005L + 1442695040888963407L;
            int r = (int) (x >>> 33);
            try {
                copy.turn(r % 8, r / 512 % 28 - 4, r / 16 % 24, r / 16384 % 2 == 1);
            } catch (RuntimeException e) {
                // What would throw is left out.
            }
        }
        return 1000 * (copy.s.swept - s.swept) + copy.heldWeight();
    }

    private void turn(int kind, int a, int q, boolean is) {
        switch (kind) {
            case 0, 1 -> tie(a, q, true);
            case 2 -> cut(a, q);
            case 3 -> fray(a, q);
            case 4 -> mend(a, q);
            case 5 -> pin(q, is);
            default -> {
                if (s.sweep) {
                    step();
                } else {
                    begin();
                }
            }
        }
    }

    int save(int slot) {
        if (slot != 0 && slot != 1) {
            throw new IndexOutOfBoundsException();
        }
        slots[slot] = s.copy();
        return s.parts.size();
    }

    int restore(int slot) {
        if (slot != 0 && slot != 1) {
            throw new IndexOutOfBoundsException();
        }
        if (slots[slot] == null) {
            throw new IllegalStateException();
        }
        s = slots[slot].copy();
        past.clear();
        return s.parts.size();
    }
}
