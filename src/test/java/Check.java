/** What the tests share: comparing answers, and making sheds of texts. */
final class Check {
    interface Call {
        long answer();
    }

    private static int passed = 0;
    private static int wrong = 0;

    private Check() {
    }

    static void is(String call, long due, Call asked) {
        String got;
        try {
            got = Long.toString(asked.answer());
        } catch (RuntimeException e) {
            got = e.getClass().getSimpleName();
        }
        compare(call, Long.toString(due), got);
    }

    static void refused(String call, Class<? extends RuntimeException> due, Call asked) {
        String got;
        try {
            got = Long.toString(asked.answer());
        } catch (RuntimeException e) {
            got = e.getClass().getSimpleName();
        }
        compare(call, due.getSimpleName(), got);
    }

    static void compare(String call, String due, String got) {
        if (due.equals(got)) {
            passed++;
        } else {
            wrong++;
            if (wrong <= 50) {
                System.out.println(call + " answered " + got + ", due is " + due);
            }
        }
    }

    static boolean allRight() {
        return wrong == 0;
    }

    static void write(StringShed shed, String text) {
        for (int i = 0; i < text.length(); i++) {
            shed.append(text.charAt(i));
        }
    }

    /** Replaces the text, loads it, and empties the text; tells when a command was left out. */
    static StringShed shed(String text) {
        StringShed shed = new StringShed();
        write(shed, text);
        is("load " + text, 0, shed::load);
        shed.clearText();
        return shed;
    }

    /** Loads one text with the other one behind it, whatever is left out. */
    static StringShed shed(String text, String more) {
        StringShed shed = new StringShed();
        write(shed, text + more);
        shed.load();
        shed.clearText();
        return shed;
    }

    static void end() {
        System.out.println(passed + " right, " + wrong + " wrong");
        System.exit(wrong == 0 ? 0 : 1);
    }
}
