import java.nio.charset.StandardCharsets;

/** What the tests share: answers against what is due, texts to the tape, and the end with its exit code. */
final class Due {
    interface Call {
        long run();
    }

    private static int wrong = 0;
    private static int looked = 0;
    private static String about = "";

    private Due() {
    }

    /** What the answers that follow are about; "" for nothing that a test would have to name. */
    static void about(String words) {
        about = words.isEmpty() ? "" : words + " -- ";
    }

    static void is(String what, long got, long want) {
        looked++;
        if (got != want) {
            wrong++;
            System.out.println(about + what + " answered " + got + ", due is " + want);
        }
    }

    static void is(String what, String got, String want) {
        looked++;
        if (!want.equals(got)) {
            wrong++;
            System.out.println(about + what + " is " + got + ", due is " + want);
        }
    }

    static void index(String what, Call call) {
        thrown(what, IndexOutOfBoundsException.class, call);
    }

    static void illegal(String what, Call call) {
        thrown(what, IllegalArgumentException.class, call);
    }

    static void unsupported(String what, Call call) {
        thrown(what, UnsupportedOperationException.class, call);
    }

    private static void thrown(String what, Class<?> want, Call call) {
        String got;
        try {
            got = "the answer " + call.run();
        } catch (RuntimeException e) {
            got = e.getClass().getName();
        }
        is(what, got, want.getName());
    }

    /** Everything that can be told without changing anything. */
    static String state(DistanceSolver s) {
        StringBuilder b = new StringBuilder();
        for (int what = 0; what < 7; what++) {
            b.append(s.told(what)).append(' ');
        }
        b.append("fault ").append(s.fault()).append(" core");
        for (int i = 0; i < s.told(2); i++) {
            b.append(' ').append(s.core(i));
        }
        for (int k = 0; k < s.told(0); k++) {
            b.append(" / ");
            for (int what = 0; what < 5; what++) {
                b.append(s.constraint(k, what)).append(' ');
            }
        }
        for (int k = 0; k < s.told(3); k++) {
            b.append(" d(").append(s.atom(k, 0)).append(' ').append(s.atom(k, 1)).append(' ')
                    .append(s.atom(k, 2)).append(')');
        }
        return b.toString();
    }

    static void feed(DistanceSolver s, String text) {
        byte[] bytes = text.getBytes(StandardCharsets.ISO_8859_1);
        for (int i = 0; i < bytes.length; i += 8) {
            int n = Math.min(8, bytes.length - i);
            long number = 0;
            for (int k = 0; k < n; k++) {
                number = number << 8 | bytes[i + k] & 255;
            }
            s.feed(number, n);
        }
    }

    static int read(DistanceSolver s, String text) {
        feed(s, text);
        return s.read();
    }

    static int check(DistanceSolver s, String text) {
        feed(s, text);
        return s.check(true);
    }

    static String written(DistanceSolver s) {
        StringBuilder b = new StringBuilder();
        for (int i = 0; i < s.told(5); i++) {
            b.append((char) s.written(i));
        }
        return b.toString();
    }

    static void end() {
        System.out.println(looked + " answers, " + wrong + " of them not as due");
        if (wrong != 0) {
            System.exit(1);
        }
    }
}
