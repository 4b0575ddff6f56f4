import java.util.NoSuchElementException;

/** Compares answers with what is due, tells each that differs, and ends the test with exit code 1, if any did. */
final class Check {
    interface Call {
        long run();
    }

    private int done;
    private int wrong;

    void is(String what, long due, long got) {
        done++;
        if (got != due) {
            wrong++;
            System.out.println(what + ": answered " + got + ", due is " + due);
        }
    }

    void isTrue(String what, boolean holds) {
        is(what, 1, holds ? 1 : 0);
    }

    void noCell(String what, Call call) {
        throwing(what, IndexOutOfBoundsException.class, call);
    }

    void noStone(String what, Call call) {
        throwing(what, NoSuchElementException.class, call);
    }

    void noArgument(String what, Call call) {
        throwing(what, IllegalArgumentException.class, call);
    }

    private void throwing(String what, Class<? extends RuntimeException> due, Call call) {
        String got;
        try {
            got = "answered " + call.run();
        } catch (RuntimeException e) {
            got = e.getClass() == due ? "" : "threw " + e;
        }
        done++;
        if (!got.isEmpty()) {
            wrong++;
            System.out.println(what + ": " + got + ", due is " + due.getSimpleName());
        }
    }

    void end() {
        System.out.println(wrong == 0 ? done + " answers are as due" : wrong + " of " + done + " answers are not as due");
        if (wrong > 0) {
            System.exit(1);
        }
    }

    /** Feeds a text, filled up with blanks to the next 20 bytes. */
    static void feed(FieldStones x, String text) {
        for (int i = 0; i < text.length(); i += 20) {
            int[] v = new int[5];
            for (int k = 0; k < 20; k++) {
                v[k / 4] = v[k / 4] << 8 | (i + k < text.length() ? text.charAt(i + k) : ' ');
            }
            x.feed(v[0], v[1], v[2], v[3], v[4]);
        }
    }

    static int field(FieldStones x, String text) {
        feed(x, text);
        return x.field(text.length());
    }

    static FieldStones field(String text) {
        FieldStones x = new FieldStones();
        field(x, text);
        return x;
    }

    static int law(FieldStones x, int which, String text) {
        feed(x, text);
        return x.law(which, text.length());
    }

    static int work(FieldStones x, String text) {
        feed(x, text);
        return x.work(text.length());
    }

    static int book(FieldStones x, String text) {
        feed(x, text);
        return x.book(text.length());
    }
}
