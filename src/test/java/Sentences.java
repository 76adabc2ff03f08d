import java.lang.annotation.ElementType;
import java.lang.annotation.Retention;
import java.lang.annotation.RetentionPolicy;
import java.lang.annotation.Target;
import java.lang.reflect.InvocationTargetException;
import java.lang.reflect.Method;
import java.util.ArrayList;
import java.util.Arrays;
import java.util.Comparator;
import java.util.List;
import java.util.NoSuchElementException;

/**
 * What the boundary tests share: each is a method that bears the words of the document which it
 * tests, and the number of the promise they stand under (0: the terms).
 */
abstract class Sentences {
    @Retention(RetentionPolicy.RUNTIME)
    @Target(ElementType.METHOD)
    @interface Says {
        int promise() default 0;

        String value();
    }

    static final int NONE = FollowTheSun.NONE;
    static final int LAST = 2399;
    static final int[] NO_HOURS = {-1, 2400, Integer.MIN_VALUE, Integer.MAX_VALUE};

    private int checks = 0;
    private int wrong = 0;
    private String sentence = "";

    // ---- running them

    /** Runs each sentence of this class, and tells which promises they stand under. */
    final void run(boolean[] promises) {
        Method[] all = getClass().getDeclaredMethods();
        Arrays.sort(all, Comparator.comparing(Method::getName));
        for (Method m : all) {
            Says says = m.getAnnotation(Says.class);
            if (says != null) {
                sentence = says.promise() + " \"" + says.value() + "\" (" + m.getName() + ")";
                promises[says.promise()] = true;
                runOne(m);
            }
        }
    }

    private void runOne(Method m) {
        int before = checks;
        try {
            m.invoke(this);
        } catch (InvocationTargetException e) {
            fault("threw " + e.getCause());
        } catch (IllegalAccessException e) {
            fault("could not be run");
        }
        if (checks == before) {
            fault("asked nothing");
        }
    }

    final int checks() {
        return checks;
    }

    final int wrong() {
        return wrong;
    }

    private void fault(String what) {
        wrong++;
        System.out.println(sentence + ": " + what);
    }

    // ---- what is due

    final void due(String call, long got, long want) {
        checks++;
        if (got != want) {
            fault(call + " answered " + got + ", due is " + want);
        }
    }

    final void due(String call, boolean got, boolean want) {
        due(call, got ? 1 : 0, want ? 1 : 0);
    }

    final void dueNot(String call, long got, long unwanted) {
        checks++;
        if (got == unwanted) {
            fault(call + " answered " + got + ", which is not due");
        }
    }

    final void dueRow(FollowTheSun x, long... want) {
        due("numbers of the row", x.count(8), want.length);
        for (int i = 0; i < want.length && i < x.count(8); i++) {
            due("row(" + i + ")", x.row(i), want[i]);
        }
    }

    final void dueThrow(String call, Runnable asked) {
        checks++;
        try {
            asked.run();
        } catch (NoSuchElementException e) {
            if (e.getClass() != NoSuchElementException.class) {
                fault(call + " threw " + e);
            }
            return;
        }
        fault(call + " threw nothing");
    }

    final void dueSame(String when, List<Long> got, List<Long> want) {
        checks++;
        if (!got.equals(want)) {
            fault(when + ": " + got + ", due is " + want);
        }
    }

    // ---- what they are asked of

    /**
     * Office 0 is at work in the hours 9 .. 16 of each day for pay 10 (one person, craft 0), office 1
     * in the hours 21 .. 28 for pay 5 (two people, crafts 0 and 1).
     */
    static FollowTheSun two() {
        FollowTheSun x = new FollowTheSun();
        x.office(9, 8, 10, 65);
        x.office(24 * 12 + 9, 8, 5, 131);
        return x;
    }

    /** One office, at work in the hours 14 .. 23 of each day, and one piece there. */
    static FollowTheSun late(int length) {
        FollowTheSun x = new FollowTheSun();
        x.office(14, 10, 1, 65);
        piece(x, 0, length, 0);
        return x;
    }

    /** An office of zone 0, pay 1, one person and all crafts. */
    static int plain(FollowTheSun x, int from, int length) {
        return x.office(from, length, 1, 64 + 63);
    }

    static int piece(FollowTheSun x, int craft, int length, int born) {
        return x.piece(6 * 60 + craft, length, 0, born, NONE);
    }

    static void write(FollowTheSun x, String s) {
        for (int i = 0; i < s.length(); i += 4) {
            int v = 0;
            for (int j = 0; j < 4; j++) {
                v = v << 8 | (i + j < s.length() ? s.charAt(i + j) & 255 : 0);
            }
            x.sign(v);
        }
        x.end(s.length());
    }

    static int rule(FollowTheSun x, String s) {
        x.end(0);
        write(x, s);
        return x.rule();
    }

    /** All that can be seen of an object but its ROW, asked so that nothing but the ROW changes. */
    static List<Long> seen(FollowTheSun x) {
        List<Long> all = new ArrayList<>();
        for (int what : new int[] {0, 1, 2, 3, 4, 5, 6, 7, 9}) {
            all.add((long) x.count(what));
        }
        for (int p = 0; p < x.count(1); p++) {
            for (int what = 0; what <= 8; what++) {
                all.add((long) x.of(p, what));
            }
        }
        for (int a = 0; a < x.count(0); a++) {
            for (int h : new int[] {0, 8, 9, 16, 17, 33, 2385}) {
                all.add((long) x.open(a, h));
            }
            for (int b = 0; b < x.count(0); b++) {
                all.add((long) x.loses(a, b, 0));
                addValue(all, x, b);
            }
        }
        all.add((long) x.mean(1));
        addRow(all, x);
        all.add((long) x.ends());
        addRow(all, x);
        return all;
    }

    private static void addValue(List<Long> all, FollowTheSun x, int office) {
        try {
            all.add((long) x.value(0, office));
        } catch (NoSuchElementException e) {
            all.add(Long.MIN_VALUE);
        }
    }

    static List<Long> rowOf(FollowTheSun x) {
        List<Long> all = new ArrayList<>();
        addRow(all, x);
        return all;
    }

    private static void addRow(List<Long> all, FollowTheSun x) {
        for (int i = 0; i < x.count(8); i++) {
            all.add(x.row(i));
        }
    }
}
