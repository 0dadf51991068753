/**
 * A shed of parts that hang by strings from hooks in the ceiling.
 *
 * A thing above is told by a number: from 0 a part, -1 to -4 the hooks 0 to 3. A set of things is an
 * int with a bit for each of them; bitOf tells which.
 */
public final class StringShed {
    public static final int NONE = -9;

    private static final int PARTS = 24;
    private static final int HOOKS = 4;
    private static final int STRINGS = 40;
    private static final int MOST_WEIGHT = 9;
    private static final int MOST_TEXT = 120;
    private static final int MOST_CODE = 255;
    private static final int MOST_REMEMBERED = 14;
    private static final int SLOTS = 2;
    private static final int MOST_ABOUT = 11;
    private static final int MOST_ABOUT_PART = 6;
    private static final int MOST_COMMANDS = 3;
    private static final int MOST_TURNS = 200;

    private static final int ALL_HOOKS = (1 << HOOKS) - 1;
    private static final int NO_STRING = -1;

    private static final int MAKE = 1;
    private static final int TIE = 2;
    private static final int CUT = 3;
    private static final int FRAY = 4;
    private static final int MEND = 5;
    private static final int PIN = 6;
    private static final int BEGIN = 7;
    private static final int STEP = 8;

    private static final int FINE = 0;
    private static final int NOT_THERE = 1;
    private static final int OUT_OF_RANGE = 2;
    private static final int NOT_NOW = 3;

    private final Shed now;
    private final Shed trial;
    private final Past past;
    private final Shed[] slots;
    private final boolean[] saved;
    private final Text text;
    private final Cutter cutter;

    public StringShed() {
        now = new Shed();
        trial = new Shed();
        past = new Past();
        slots = new Shed[SLOTS];
        for (int i = 0; i < SLOTS; i++) {
            slots[i] = new Shed();
        }
        saved = new boolean[SLOTS];
        text = new Text();
        cutter = new Cutter();
    }

    // ---- text

    public int append(int c) throws IllegalArgumentException, IllegalStateException {
        if (c < 0 || c > MOST_CODE) {
            throw new IllegalArgumentException("not a character code");
        }
        if (text.isFull()) {
            throw new IllegalStateException("the text is full");
        }
        return text.add(c);
    }

    public int clearText() {
        return text.empty();
    }

    public int errorPosition() {
        return text.firstError();
    }

    public int load() throws IllegalStateException {
        if (text.firstError() != NONE) {
            throw new IllegalStateException("the text is not a shed");
        }
        now.clear();
        past.forget();
        for (int i = 0; i < SLOTS; i++) {
            saved[i] = false;
        }
        int leftOut = 0;
        for (int at = 1; at < text.size(); at++) {
            leftOut += text.isCommandAt(at) && !text.obeyAt(at, now) ? 1 : 0;
        }
        return leftOut;
    }

    // ---- what there is

    public int about(int what) throws IllegalArgumentException {
        if (what < 0 || what > MOST_ABOUT) {
            throw new IllegalArgumentException("no such number of a shed");
        }
        return now.figure(what);
    }

    public int part(int p, int what) throws IndexOutOfBoundsException, IllegalArgumentException {
        refuse(now.partFault(p));
        if (what < 0 || what > MOST_ABOUT_PART) {
            throw new IllegalArgumentException("no such number of a part");
        }
        return now.figureOf(p, what);
    }

    public int string(int above, int p) throws IndexOutOfBoundsException {
        refuse(now.placeFault(above, p));
        return now.strings.kindAt(now.strings.find(above, p));
    }

    public int stringAt(int i) throws IllegalArgumentException {
        if (i < 0) {
            throw new IllegalArgumentException("a place is not negative");
        }
        return now.strings.codeAt(i);
    }

    // ---- actions

    public int make(int weight) throws IllegalArgumentException, IllegalStateException {
        return act(MAKE, NONE, weight, false);
    }

    public int tie(int above, int p, boolean sound)
            throws IndexOutOfBoundsException, IllegalArgumentException, IllegalStateException {
        return act(TIE, above, p, sound);
    }

    public int cut(int above, int p) throws IndexOutOfBoundsException {
        return act(CUT, above, p, false);
    }

    public int fray(int above, int p) throws IndexOutOfBoundsException, IllegalStateException {
        return act(FRAY, above, p, false);
    }

    public int mend(int above, int p) throws IndexOutOfBoundsException, IllegalStateException {
        return act(MEND, above, p, false);
    }

    public int pin(int p, boolean is) throws IndexOutOfBoundsException {
        return act(PIN, NONE, p, is);
    }

    public int begin() throws IllegalStateException {
        return act(BEGIN, NONE, NONE, false);
    }

    public int step() throws IllegalStateException {
        return act(STEP, NONE, NONE, false);
    }

    public int undo() throws IllegalStateException {
        if (past.isEmpty()) {
            throw new IllegalStateException("no state is remembered");
        }
        return past.takeBack(now);
    }

    private int act(int kind, int above, int p, boolean is) {
        refuse(now.faultOf(kind, above, p));
        past.remember(now);
        return now.perform(kind, above, p, is);
    }

    private static void refuse(int fault) {
        if (fault == NOT_THERE) {
            throw new IndexOutOfBoundsException("no such hook, part or string");
        }
        if (fault == OUT_OF_RANGE) {
            throw new IllegalArgumentException("an argument is out of its range");
        }
        if (fault == NOT_NOW) {
            throw new IllegalStateException("this can't be done now");
        }
    }

    // ---- what would be

    public int falls(int above, int p) throws IndexOutOfBoundsException {
        refuse(now.faultOf(CUT, above, p));
        return now.weightUnder(now.strings.find(above, p));
    }

    public int cuts(int p) throws IndexOutOfBoundsException {
        refuse(now.partFault(p));
        return now.isPinned(p) ? NONE : cutter.fewest(now.strings, now.holders(), p);
    }

    public int heaviest() {
        int best = NO_STRING;
        int most = -1;
        for (int i = 0; i < now.strings.size(); i++) {
            int weight = now.weightUnder(i);
            if (weight > most) {
                most = weight;
                best = i;
            }
        }
        return now.strings.codeAt(best);
    }

    public int rings() {
        return now.partsOnRings();
    }

    public int takes() {
        trial.copyFrom(now);
        trial.finishSweep();
        return trial.swept() - now.swept();
    }

    public int spares() {
        if (!now.sweep.isGoing()) {
            return 0;
        }
        trial.copyFrom(now);
        trial.finishSweep();
        return Integer.bitCount(trial.parts() & ~now.held());
    }

    public int way(int p, int i) throws IndexOutOfBoundsException, IllegalArgumentException {
        refuse(now.partFault(p));
        if (i < 0) {
            throw new IllegalArgumentException("a place is not negative");
        }
        return now.strings.onWay(now.holders(), p, i);
    }

    // ---- scripts, simulations

    public int runScript(int n, long script) throws IllegalArgumentException {
        if (n < 1 || n > MOST_COMMANDS) {
            throw new IllegalArgumentException("a script has 1 to 3 commands");
        }
        if (script < 0 || script >= Script.limit(n)) {
            throw new IllegalArgumentException("too many digits for the commands");
        }
        trial.copyFrom(now);
        for (int i = 0; i < n; i++) {
            if (!Script.succeeds(trial, Script.groupAt(script, n - 1 - i))) {
                return i;
            }
        }
        return NONE;
    }

    public int simulate(long seed, int m) throws IllegalArgumentException {
        if (m < 1 || m > MOST_TURNS) {
            throw new IllegalArgumentException("1 to 200 turns");
        }
        trial.copyFrom(now);
        long x = seed;
        for (int turn = 0; turn < m; turn++) {
            x = x * 6364136223846793005L + 1442695040888963407L;
            takeTurn((int) (x >>> 33));
        }
        return 1000 * (trial.swept() - now.swept()) + trial.weightOf(trial.held());
    }

    private void takeTurn(int r) {
        int p = r / 16 % PARTS;
        int above = r / 512 % (PARTS + HOOKS) - HOOKS;
        switch (r % 8) {
            case 0:
            case 1:
                trial.attempt(TIE, above, p, true);
                break;
            case 2:
                trial.attempt(CUT, above, p, false);
                break;
            case 3:
                trial.attempt(FRAY, above, p, false);
                break;
            case 4:
                trial.attempt(MEND, above, p, false);
                break;
            case 5:
                trial.attempt(PIN, NONE, p, r / 16384 % 2 == 1);
                break;
            default:
                trial.attempt(trial.sweep.isGoing() ? STEP : BEGIN, NONE, NONE, false);
                break;
        }
    }

    // ---- save slots

    public int save(int slot) throws IndexOutOfBoundsException {
        if (slot < 0 || slot >= SLOTS) {
            throw new IndexOutOfBoundsException("no such save slot");
        }
        Shed place = slots[slot];
        if (place != null) {
            place.copyFrom(now);
            saved[slot] = true;
        }
        return Integer.bitCount(now.parts());
    }

    public int restore(int slot) throws IndexOutOfBoundsException, IllegalStateException {
        if (slot < 0 || slot >= SLOTS) {
            throw new IndexOutOfBoundsException("no such save slot");
        }
        if (!saved[slot]) {
            throw new IllegalStateException("nothing is saved there");
        }
        now.copyFrom(slots[slot]);
        past.forget();
        return Integer.bitCount(now.parts());
    }

    /** The bit of a thing in a set of things; no bit for a number that is no thing's. */
    private static int bitOf(int thing) {
        return thing >= -HOOKS && thing < PARTS ? 1 << (thing + HOOKS) : 0;
    }

    /** The strings, in the order in which they were tied. */
    private static final class Strings {
        private final int[] above = new int[STRINGS];
        private final int[] below = new int[STRINGS];
        private final boolean[] sound = new boolean[STRINGS];
        private int count = 0;

        void copyFrom(Strings other) {
            count = other.count;
            for (int i = 0; i < count && i < STRINGS; i++) {
                above[i] = other.above[i];
                below[i] = other.below[i];
                sound[i] = other.sound[i];
            }
        }

        void clear() {
            count = 0;
        }

        int size() {
            return count;
        }

        boolean isFull() {
            return count >= STRINGS;
        }

        private boolean isAt(int i) {
            return i >= 0 && i < count && i < STRINGS;
        }

        int aboveAt(int i) {
            return isAt(i) ? above[i] : NONE;
        }

        int belowAt(int i) {
            return isAt(i) ? below[i] : NONE;
        }

        boolean isSoundAt(int i) {
            return isAt(i) && sound[i];
        }

        int kindAt(int i) {
            if (!isAt(i)) {
                return 0;
            }
            return sound[i] ? 1 : 2;
        }

        int codeAt(int i) {
            return isAt(i) ? 100 * (HOOKS + above[i]) + below[i] : NONE;
        }

        int find(int thing, int p) {
            for (int i = 0; i < count && i < STRINGS; i++) {
                if (above[i] == thing && below[i] == p) {
                    return i;
                }
            }
            return NO_STRING;
        }

        void add(int thing, int p, boolean isSound) {
            if (count >= 0 && count < STRINGS) {
                above[count] = thing;
                below[count] = p;
                sound[count] = isSound;
                count++;
            }
        }

        void setSound(int i, boolean isSound) {
            if (isAt(i)) {
                sound[i] = isSound;
            }
        }

        void removeAt(int i) {
            if (!isAt(i)) {
                return;
            }
            for (int k = i + 1; k < count && k < STRINGS; k++) {
                above[k - 1] = above[k];
                below[k - 1] = below[k];
                sound[k - 1] = sound[k];
            }
            count--;
        }

        /** Removes the strings at these things, above or below; returns how many they are. */
        int removeAll(int things) {
            int kept = 0;
            for (int i = 0; i < count && i < STRINGS; i++) {
                int ends = 1 << (above[i] + HOOKS) | 1 << (below[i] + HOOKS);
                if ((ends & things) == 0) {
                    above[kept] = above[i];
                    below[kept] = below[i];
                    sound[kept] = sound[i];
                    kept++;
                }
            }
            int removed = count - kept;
            count = kept;
            return removed;
        }

        int frayed() {
            int number = 0;
            for (int i = 0; i < count && i < STRINGS; i++) {
                number += sound[i] ? 0 : 1;
            }
            return number;
        }

        int soundTo(int p) {
            int number = 0;
            for (int i = 0; i < count && i < STRINGS; i++) {
                number += sound[i] && below[i] == p ? 1 : 0;
            }
            return number;
        }

        int under(int p) {
            int number = 0;
            for (int i = 0; i < count && i < STRINGS; i++) {
                number += above[i] == p ? 1 : 0;
            }
            return number;
        }

        /** The parts directly below these things, by sound strings. */
        int nextBelow(int things) {
            int parts = 0;
            for (int i = 0; i < count && i < STRINGS; i++) {
                if (sound[i] && (things >> (above[i] + HOOKS) & 1) != 0) {
                    parts |= 1 << (below[i] + HOOKS);
                }
            }
            return parts;
        }

        /** These things and all that hangs from them, by sound strings other than the one left out. */
        int reach(int things, int leftOut) {
            int reached = things;
            for (int round = 0; round < PARTS; round++) {
                int before = reached;
                for (int i = 0; i < count && i < STRINGS; i++) {
                    if (sound[i] && i != leftOut && (reached >> (above[i] + HOOKS) & 1) != 0) {
                        reached |= 1 << (below[i] + HOOKS);
                    }
                }
                if (reached == before) {
                    return reached;
                }
            }
            return reached;
        }

        int depthOf(int holders, int thing) {
            int reached = holders;
            for (int depth = 0; depth <= PARTS; depth++) {
                if ((reached & bitOf(thing)) != 0) {
                    return depth;
                }
                reached |= nextBelow(reached);
            }
            return NONE;
        }

        /** The depth at which nothing deeper is found any more. */
        int greatestDepth(int holders) {
            int reached = holders;
            for (int depth = 0; depth < PARTS; depth++) {
                int more = reached | nextBelow(reached);
                if (more == reached) {
                    return depth;
                }
                reached = more;
            }
            return PARTS;
        }

        /** The thing at this depth on the way down to the part; NONE if the part is not so deep. */
        int onWay(int holders, int p, int depth) {
            int at = depthOf(holders, p);
            if (at == NONE || depth > at) {
                return NONE;
            }
            int thing = p;
            for (int d = at - 1; d >= depth; d--) {
                thing = firstAbove(holders, thing, d);
            }
            return thing;
        }

        private int firstAbove(int holders, int p, int depth) {
            for (int i = 0; i < count && i < STRINGS; i++) {
                if (sound[i] && below[i] == p && depthOf(holders, above[i]) == depth) {
                    return above[i];
                }
            }
            return NONE;
        }

        boolean isOnRing(int p) {
            int first = nextBelow(bitOf(p));
            return (reach(first, NO_STRING) & bitOf(p)) != 0;
        }
    }

    /** The colours of a sweep; while none goes on, nothing has a colour. */
    private static final class Sweep {
        private final int[] row = new int[PARTS];
        private int grays = 0;
        private int white = 0;
        private int black = 0;
        private boolean going = false;

        void copyFrom(Sweep other) {
            grays = other.grays;
            white = other.white;
            black = other.black;
            going = other.going;
            for (int i = 0; i < grays && i < PARTS; i++) {
                row[i] = other.row[i];
            }
        }

        void start(int parts) {
            stop();
            going = true;
            white = parts;
        }

        void stop() {
            going = false;
            grays = 0;
            white = 0;
            black = 0;
        }

        boolean isGoing() {
            return going;
        }

        int whites() {
            return white;
        }

        int graysInRow() {
            return grays;
        }

        int colourOf(int p) {
            if (!going) {
                return NONE;
            }
            if ((white & bitOf(p)) != 0) {
                return 0;
            }
            return (black & bitOf(p)) != 0 ? 2 : 1;
        }

        /** Whether a part becomes gray when a sound string comes to lead to it from this thing. */
        boolean passesBelow(int above) {
            return ((ALL_HOOKS | black) & bitOf(above)) != 0;
        }

        void addBlack(int p) {
            if (going) {
                black |= bitOf(p);
            }
        }

        void shade(int p) {
            if ((white & bitOf(p)) != 0 && grays >= 0 && grays < PARTS) {
                white &= ~bitOf(p);
                row[grays] = p;
                grays++;
            }
        }

        /** Makes the first gray part black and returns it; NONE without one. */
        int blackenFirst() {
            if (grays <= 0) {
                return NONE;
            }
            int first = row[0];
            for (int i = 1; i < grays && i < PARTS; i++) {
                row[i - 1] = row[i];
            }
            grays--;
            black |= bitOf(first);
            return first;
        }
    }

    /** The state: all that actions change. */
    private static final class Shed {
        private final Strings strings = new Strings();
        private final Sweep sweep = new Sweep();
        private final int[] weights = new int[PARTS];
        private int made = 0;
        private int there = 0;
        private int pinned = 0;
        private int sweepsEnded = 0;
        private int stringsGone = 0;

        void copyFrom(Shed other) {
            if (other == null) {
                return;
            }
            strings.copyFrom(other.strings);
            sweep.copyFrom(other.sweep);
            made = other.made;
            there = other.there;
            pinned = other.pinned;
            sweepsEnded = other.sweepsEnded;
            stringsGone = other.stringsGone;
            for (int i = 0; i < made && i < PARTS; i++) {
                weights[i] = other.weights[i];
            }
        }

        void clear() {
            strings.clear();
            sweep.stop();
            made = 0;
            there = 0;
            pinned = 0;
            sweepsEnded = 0;
            stringsGone = 0;
        }

        int parts() {
            return there;
        }

        int swept() {
            return made - Integer.bitCount(there);
        }

        boolean isPart(int p) {
            return (there & bitOf(p)) != 0;
        }

        boolean isPinned(int p) {
            return (pinned & bitOf(p)) != 0;
        }

        /** What holds without being held: the hooks and the pinned parts. */
        int holders() {
            return ALL_HOOKS | pinned;
        }

        int held() {
            return strings.reach(holders(), NO_STRING) & ~ALL_HOOKS;
        }

        int depthOf(int p) {
            return strings.depthOf(holders(), p);
        }

        int weightOf(int parts) {
            int sum = 0;
            for (int p = 0; p < made && p < PARTS; p++) {
                sum += (parts & bitOf(p)) != 0 ? weights[p] : 0;
            }
            return sum;
        }

        /** The weight of the parts that only this string keeps held. */
        int weightUnder(int string) {
            return weightOf(held() & ~strings.reach(holders(), string));
        }

        int partsOnRings() {
            int loose = there & ~held();
            int number = 0;
            for (int p = 0; p < PARTS; p++) {
                number += (loose & bitOf(p)) != 0 && strings.isOnRing(p) ? 1 : 0;
            }
            return number;
        }

        int figure(int what) {
            switch (what) {
                case 0:
                    return Integer.bitCount(there);
                case 1:
                    return made;
                case 2:
                    return swept();
                case 3:
                    return strings.size();
                case 4:
                    return strings.frayed();
                case 5:
                    return Integer.bitCount(pinned);
                case 6:
                    return Integer.bitCount(held());
                case 7:
                    return weightOf(held());
                case 8:
                    return sweep.isGoing() ? 1 : 0;
                case 9:
                    return sweepsEnded;
                case 10:
                    return stringsGone;
                default:
                    return held() == 0 ? NONE : strings.greatestDepth(holders());
            }
        }

        int figureOf(int p, int what) {
            switch (what) {
                case 0:
                    return weightOf(bitOf(p));
                case 1:
                    return isPinned(p) ? 1 : 0;
                case 2:
                    return (held() & bitOf(p)) != 0 ? 1 : 0;
                case 3:
                    return depthOf(p);
                case 4:
                    return strings.soundTo(p);
                case 5:
                    return strings.under(p);
                default:
                    return sweep.colourOf(p);
            }
        }

        // Actions: faultOf tells why one is refused, perform does one that is not.

        boolean attempt(int kind, int above, int p, boolean is) {
            if (faultOf(kind, above, p) != FINE) {
                return false;
            }
            perform(kind, above, p, is);
            return true;
        }

        /** The first fault of an action; p is the weight for MAKE. */
        int faultOf(int kind, int above, int p) {
            switch (kind) {
                case MAKE:
                    return makeFault(p);
                case TIE:
                    return tieFault(above, p);
                case CUT:
                    return strings.find(above, p) == NO_STRING ? NOT_THERE : FINE;
                case FRAY:
                    return stringFault(above, p, true);
                case MEND:
                    return stringFault(above, p, false);
                case PIN:
                    return partFault(p);
                case BEGIN:
                    return sweep.isGoing() ? NOT_NOW : FINE;
                default:
                    return sweep.isGoing() ? FINE : NOT_NOW;
            }
        }

        private int makeFault(int weight) {
            if (weight < 1 || weight > MOST_WEIGHT) {
                return OUT_OF_RANGE;
            }
            return made >= PARTS ? NOT_NOW : FINE;
        }

        private int tieFault(int above, int p) {
            if (placeFault(above, p) != FINE) {
                return NOT_THERE;
            }
            if (above == p) {
                return OUT_OF_RANGE;
            }
            return strings.isFull() || strings.find(above, p) != NO_STRING ? NOT_NOW : FINE;
        }

        private int stringFault(int above, int p, boolean sound) {
            int i = strings.find(above, p);
            if (i == NO_STRING) {
                return NOT_THERE;
            }
            return strings.isSoundAt(i) == sound ? FINE : NOT_NOW;
        }

        int partFault(int p) {
            return isPart(p) ? FINE : NOT_THERE;
        }

        int placeFault(int above, int p) {
            boolean isThing = ((there | ALL_HOOKS) & bitOf(above)) != 0;
            return isThing && (there & bitOf(p)) != 0 ? FINE : NOT_THERE;
        }

        int perform(int kind, int above, int p, boolean is) {
            switch (kind) {
                case MAKE:
                    return addPart(p);
                case TIE:
                    return addString(above, p, is);
                case CUT:
                    return removeString(above, p);
                case FRAY:
                    return setSound(above, p, false);
                case MEND:
                    return setSound(above, p, true);
                case PIN:
                    return setPinned(p, is);
                case BEGIN:
                    return beginSweep();
                default:
                    return takeStep();
            }
        }

        private int addPart(int weight) {
            int p = made;
            if (p >= 0 && p < PARTS) {
                weights[p] = weight;
                there |= bitOf(p);
                sweep.addBlack(p);
                made++;
            }
            return p;
        }

        private int addString(int above, int p, boolean sound) {
            strings.add(above, p, sound);
            if (sound && sweep.passesBelow(above)) {
                sweep.shade(p);
            }
            return strings.size();
        }

        private int removeString(int above, int p) {
            int before = held();
            strings.removeAt(strings.find(above, p));
            return Integer.bitCount(before & ~held());
        }

        /** Returns how many parts are held no more, or are held now and were not. */
        private int setSound(int above, int p, boolean sound) {
            int before = held();
            strings.setSound(strings.find(above, p), sound);
            if (sound && sweep.passesBelow(above)) {
                sweep.shade(p);
            }
            return Integer.bitCount(before ^ held());
        }

        private int setPinned(int p, boolean is) {
            if (is) {
                pinned |= bitOf(p);
                sweep.shade(p);
            } else {
                pinned &= ~bitOf(p);
            }
            return Integer.bitCount(held());
        }

        private int beginSweep() {
            sweep.start(there);
            int first = pinned | strings.nextBelow(ALL_HOOKS);
            for (int p = 0; p < PARTS; p++) {
                if ((first & bitOf(p)) != 0) {
                    sweep.shade(p);
                }
            }
            return sweep.graysInRow();
        }

        private int takeStep() {
            int p = sweep.blackenFirst();
            if (p == NONE) {
                return endSweep();
            }
            for (int i = 0; i < strings.size(); i++) {
                if (strings.isSoundAt(i) && strings.aboveAt(i) == p) {
                    sweep.shade(strings.belowAt(i));
                }
            }
            return p;
        }

        private int endSweep() {
            // No white part is pinned: pinning makes it gray.
            int gone = sweep.whites();
            stringsGone += strings.removeAll(gone);
            there &= ~gone;
            sweep.stop();
            sweepsEnded++;
            return NONE - Integer.bitCount(gone);
        }

        /** Takes steps until the sweep ends; begins one if none goes on. */
        void finishSweep() {
            if (!sweep.isGoing()) {
                beginSweep();
            }
            // Each step but the last one blackens another part.
            takeSteps(PARTS + 1);
        }

        /** Takes so many steps, fewer if the sweep ends before. */
        void takeSteps(int number) {
            for (int i = 0; i < number && sweep.isGoing(); i++) {
                takeStep();
            }
        }
    }

    /** The remembered states, the oldest one first, in rows that go round. */
    private static final class Past {
        private final Shed[] states = new Shed[MOST_REMEMBERED];
        private int oldest = 0;
        private int count = 0;

        Past() {
            for (int i = 0; i < MOST_REMEMBERED; i++) {
                states[i] = new Shed();
            }
        }

        boolean isEmpty() {
            return count <= 0;
        }

        void forget() {
            count = 0;
        }

        void remember(Shed shed) {
            if (count >= MOST_REMEMBERED) {
                oldest = (oldest + 1) % MOST_REMEMBERED;
                count--;
            }
            Shed place = stateAt(count);
            if (place != null) {
                place.copyFrom(shed);
                count++;
            }
        }

        /** Puts the newest state back into the shed; returns how many are left. */
        int takeBack(Shed shed) {
            if (count > 0) {
                count--;
                shed.copyFrom(stateAt(count));
            }
            return count;
        }

        private Shed stateAt(int i) {
            return states[Math.floorMod(oldest + i, MOST_REMEMBERED)];
        }
    }

    /** Finds how many strings must be cut: as many as there are ways down that share no string. */
    private static final class Cutter {
        private final int[] via = new int[PARTS];
        private long used = 0;

        int fewest(Strings strings, int holders, int p) {
            used = 0;
            int ways = 0;
            for (int i = 0; i < STRINGS && findWay(strings, holders, p); i++) {
                takeWay(strings, holders, p);
                ways++;
            }
            return ways;
        }

        private boolean findWay(Strings strings, int holders, int p) {
            int reached = holders;
            for (int round = 0; round < PARTS && (reached & bitOf(p)) == 0; round++) {
                reached = spread(strings, reached);
            }
            return (reached & bitOf(p)) != 0;
        }

        /** A used string can be gone up only: that takes back its use. */
        private int spread(Strings strings, int things) {
            int reached = things;
            for (int i = 0; i < strings.size(); i++) {
                int from = isUsed(i) ? strings.belowAt(i) : strings.aboveAt(i);
                int to = isUsed(i) ? strings.aboveAt(i) : strings.belowAt(i);
                boolean isNew = (reached & bitOf(from)) != 0 && (reached & bitOf(to)) == 0;
                if (isNew && strings.isSoundAt(i) && to >= 0 && to < PARTS) {
                    via[to] = i;
                    reached |= bitOf(to);
                }
            }
            return reached;
        }

        private void takeWay(Strings strings, int holders, int p) {
            int thing = p;
            for (int n = 0; n < PARTS && (holders & bitOf(thing)) == 0; n++) {
                if (thing < 0 || thing >= PARTS) {
                    return;
                }
                int i = via[thing];
                thing = isUsed(i) ? strings.belowAt(i) : strings.aboveAt(i);
                used ^= 1L << i;
            }
        }

        private boolean isUsed(int i) {
            return (used >> i & 1L) != 0;
        }
    }

    /** The text buffer, the rules of its commands, and what they do. */
    private static final class Text {
        // What may stand at the next place of the text.
        private static final int WRONG = -1;
        private static final int START = 0;
        private static final int COMMAND = 1;
        private static final int WEIGHT = 2;
        private static final int ABOVE = 3;
        private static final int HOOK = 4;
        private static final int ABOVE_ONES = 5;
        private static final int ABOVE_TWENTIES = 6;
        private static final int PART = 7;
        private static final int PART_ONES = 8;
        private static final int PART_TWENTIES = 9;

        private final int[] codes = new int[MOST_TEXT];
        private int length = 0;

        boolean isFull() {
            return length >= MOST_TEXT;
        }

        int size() {
            return length;
        }

        int add(int c) {
            if (length >= 0 && length < MOST_TEXT) {
                codes[length] = c;
                length++;
            }
            return length;
        }

        int empty() {
            int before = length;
            length = 0;
            return before;
        }

        int firstError() {
            int place = START;
            for (int i = 0; i < length && i < MOST_TEXT; i++) {
                place = placeAfter(place, codes[i]);
                if (place == WRONG) {
                    return i;
                }
            }
            return place == COMMAND ? NONE : length;
        }

        private static int placeAfter(int place, int c) {
            switch (place) {
                case START:
                    return c == 'S' ? COMMAND : WRONG;
                case COMMAND:
                    return placeAfterLetter(c);
                case WEIGHT:
                    return ifBetween('1', c, '9', COMMAND);
                case ABOVE:
                    return c == 'h' ? HOOK : placeAfterTens(c, ABOVE_ONES, ABOVE_TWENTIES);
                case HOOK:
                case ABOVE_TWENTIES:
                    return ifBetween('0', c, '3', PART);
                case ABOVE_ONES:
                    return ifBetween('0', c, '9', PART);
                case PART:
                    return placeAfterTens(c, PART_ONES, PART_TWENTIES);
                case PART_ONES:
                    return ifBetween('0', c, '9', COMMAND);
                case PART_TWENTIES:
                    return ifBetween('0', c, '3', COMMAND);
                default:
                    return WRONG;
            }
        }

        private static int placeAfterLetter(int c) {
            switch (c) {
                case 'n':
                    return WEIGHT;
                case 't':
                case 'x':
                case 'f':
                case 'm':
                    return ABOVE;
                case 'p':
                    return PART;
                case 'b':
                case 's':
                    return COMMAND;
                default:
                    return WRONG;
            }
        }

        private static int placeAfterTens(int c, int ones, int twenties) {
            return c == '2' ? twenties : ifBetween('0', c, '1', ones);
        }

        private static int ifBetween(int low, int c, int high, int place) {
            return low <= c && c <= high ? place : WRONG;
        }

        // The following read the commands of a text that has no error.

        /** No letter that begins a command stands inside one. */
        boolean isCommandAt(int at) {
            return placeAfterLetter(codeAt(at)) != WRONG;
        }

        boolean obeyAt(int at, Shed shed) {
            switch (codeAt(at)) {
                case 'n':
                    return shed.attempt(MAKE, NONE, codeAt(at + 1) - '0', false);
                case 't':
                    return shed.attempt(TIE, thingAt(at + 1), numberAt(at + 3), true);
                case 'x':
                    return shed.attempt(CUT, thingAt(at + 1), numberAt(at + 3), false);
                case 'f':
                    return shed.attempt(FRAY, thingAt(at + 1), numberAt(at + 3), false);
                case 'm':
                    return shed.attempt(MEND, thingAt(at + 1), numberAt(at + 3), false);
                case 'p':
                    return shed.attempt(PIN, NONE, numberAt(at + 1), !shed.isPinned(numberAt(at + 1)));
                case 'b':
                    return shed.attempt(BEGIN, NONE, NONE, false);
                default:
                    return shed.attempt(STEP, NONE, NONE, false);
            }
        }

        private int thingAt(int at) {
            return codeAt(at) == 'h' ? '0' - codeAt(at + 1) - 1 : numberAt(at);
        }

        private int numberAt(int at) {
            return 10 * (codeAt(at) - '0') + codeAt(at + 1) - '0';
        }

        private int codeAt(int at) {
            return at >= 0 && at < length && at < MOST_TEXT ? codes[at] : 0;
        }
    }

    /** The commands of scripts: groups of five decimal digits. */
    private static final class Script {
        private static final int GROUP = 100000;
        private static final int FIRST_DIGIT = 10000;

        /** The smallest number that has too many digits for so many groups. */
        static long limit(int groups) {
            long limit = 1;
            for (int i = 0; i < groups && i < MOST_COMMANDS; i++) {
                limit *= GROUP;
            }
            return limit;
        }

        /** A group by its place, from 0, the lowest one first. */
        static int groupAt(long script, int place) {
            long rest = script;
            for (int i = 0; i < place && i < MOST_COMMANDS; i++) {
                rest /= GROUP;
            }
            return (int) (rest % GROUP);
        }

        static boolean succeeds(Shed shed, int group) {
            int rest = group % FIRST_DIGIT;
            int high = rest / 100;
            int low = rest % 100;
            switch (group / FIRST_DIGIT) {
                case 1:
                    // A weight of two digits or more is out of range as well as another group.
                    return shed.attempt(MAKE, NONE, rest, false);
                case 2:
                    return shed.attempt(TIE, thingOf(high), low, true);
                case 3:
                    return shed.attempt(CUT, thingOf(high), low, false);
                case 4:
                    return high <= 1 && shed.attempt(PIN, NONE, low, high == 0);
                case 5:
                    return rest == 0 && shed.attempt(BEGIN, NONE, NONE, false);
                case 6:
                    return high == 0 && low >= 1 && takeSteps(shed, low);
                case 7:
                    return low <= 1 && shed.isPart(high) && (shed.depthOf(high) != NONE) == (low == 1);
                case 8:
                    return shed.isPart(high) && shed.depthOf(high) != NONE && shed.depthOf(high) <= low;
                case 9:
                    return rest < 1000 && shed.weightOf(shed.held()) <= rest;
                default:
                    return false;
            }
        }

        private static boolean takeSteps(Shed shed, int number) {
            boolean going = shed.sweep.isGoing();
            shed.takeSteps(number);
            return going;
        }

        /** Numbers of two digits that mean no thing stay as they are: no part has them. */
        private static int thingOf(int digits) {
            return digits >= 90 && digits < 90 + HOOKS ? 89 - digits : digits;
        }
    }
}
