/** Objects in states where much can be changed wrongly. */
final class Sheds {
    /** What is no part in few() and busy(): hooks, a swept one, some not made, and numbers far off. */
    static final int[] NO_PART = {
        -1, -4, -5, -9, 4, 8, 23, 24, 28, 32, 60, 1 << 16, Integer.MAX_VALUE, Integer.MIN_VALUE
    };
    /** What is no thing above there. */
    static final int[] NO_THING = {-5, -6, -9, 4, 8, 23, 24, 28, 32, 60, Integer.MAX_VALUE, Integer.MIN_VALUE};

    private static final String FIVE = "Sn3n4n5n6n7th000t0001t0002p03t0302t0402bsssss";

    private Sheds() {
    }

    static StringShed bare() {
        return new StringShed();
    }

    /** Parts 0 to 6 but for 4, which is swept; 5 and 6 are a ring; no sweep; 13 states are remembered. */
    static StringShed few() {
        StringShed x = new StringShed();
        Check.write(x, FIVE);
        x.load();
        x.fray(0, 2);
        x.tie(1, 0, true);
        x.tie(-2, 3, false);
        x.make(9);
        x.tie(5, 1, true);
        x.make(2);
        x.tie(6, 5, true);
        x.tie(5, 6, true);
        x.pin(1, true);
        x.pin(1, false);
        x.mend(0, 2);
        x.fray(0, 2);
        x.pin(3, true);
        return x;
    }

    /** few(), and slot 0 saved, and a sweep: 0 is black, as 7, which is new; the row is 3, 1, 2; 14 are remembered. */
    static StringShed busy() {
        StringShed x = few();
        x.save(0);
        x.begin();
        x.step();
        x.make(4);
        x.pin(2, true);
        x.pin(2, false);
        return x;
    }

    /** The state of busy(), with no state remembered, and both slots saved. */
    static StringShed sweeping() {
        StringShed x = busy();
        x.save(1);
        x.restore(1);
        return x;
    }

    /** 24 were made, of which 0 is swept, 40 strings, 120 characters, no sweep, both slots saved. */
    static StringShed full() {
        return full('s');
    }

    /** full() with a text that is no shed. */
    static StringShed fullOfWrongText() {
        return full('!');
    }

    private static StringShed full(char last) {
        StringShed x = new StringShed();
        StringBuilder text = new StringBuilder("Sn7b" + "n6".repeat(23) + "s");
        for (int p = 10; p < 23; p++) {
            text.append('t').append(p).append(p + 1);
        }
        text.append("sss").append('s');
        Check.write(x, text.toString());
        x.load();
        x.save(1);
        for (int p = 2; p < 24; p++) {
            x.tie(1, p, p % 3 != 0);
        }
        x.save(0);
        for (int h = 1; h <= 4; h++) {
            x.tie(-h, 5 * h, true);
        }
        x.tie(-1, 1, true);
        if (last != 's') {
            x.clearText();
            text.setCharAt(119, last);
            Check.write(x, text.toString());
        }
        return x;
    }
}
