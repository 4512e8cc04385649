/** Counts the answers that are not as due, and prints them. */
final class Due {
    private final String name;
    private int asked;
    private int wrong;

    Due(String name) {
        this.name = name;
    }

    void is(String call, long got, long want) {
        asked++;
        if (got != want) {
            wrong++;
            System.out.println(name + ": " + call + " answered " + got + ", due is " + want);
        }
    }

    /** The call was refused with this number, and promise 60 counts one more of just that kind. */
    void refused(String call, BackByTwice x, Refusable refusable, int refusal) {
        int[] ahead = refusals(x);
        is(call, refusable.answer(), refusal);
        counted(call, x, ahead, refusal);
    }

    /** The call was answered, and promise 60 counts no refusal of it. */
    void answered(String call, BackByTwice x, Refusable refusable, long want) {
        int[] ahead = refusals(x);
        is(call, refusable.answer(), want);
        counted(call, x, ahead, 0);
    }

    private void counted(String call, BackByTwice x, int[] ahead, int refusal) {
        int[] then = refusals(x);
        for (int i = 0; i < then.length; i++) {
            int more = -2 - i == refusal ? 1 : 0;
            is("status(" + (12 + i) + ") behind " + call, then[i], ahead[i] + more);
        }
    }

    private static int[] refusals(BackByTwice x) {
        int[] counts = new int[5];
        for (int i = 0; i < counts.length; i++) {
            counts[i] = x.status(12 + i);
        }
        return counts;
    }

    interface Refusable {
        long answer();
    }

    static void feed(BackByTwice x, String text) {
        for (int i = 0; i < text.length(); i++) {
            x.feed(text.charAt(i));
        }
    }

    static int read(BackByTwice x, String text) {
        feed(x, text);
        return x.shop();
    }

    /** A new object with a shop that has to be right. */
    static BackByTwice shopOf(String text) {
        BackByTwice x = new BackByTwice();
        if (read(x, text) < 1) {
            throw new IllegalStateException("the test's own shop is wrong: " + text);
        }
        return x;
    }

    static void rowOf(BackByTwice x, int s, int sort, long... elements) {
        x.row(s, sort, elements.length);
        for (int i = 0; i < elements.length; i++) {
            x.set(s, i, elements[i]);
        }
    }

    static long[] line(BackByTwice x) {
        long[] line = new long[x.status(0)];
        for (int place = 0; place < line.length; place++) {
            line[place] = x.at(place);
        }
        return line;
    }

    /** Who stands at each place, as one number in decimal digits with a 9 ahead of them. */
    static long digits(BackByTwice x) {
        long digits = 9;
        for (long person : line(x)) {
            digits = 10 * digits + person;
        }
        return digits;
    }

    void end() {
        System.out.println(name + ": " + asked + " answers, " + wrong + " not as due");
        if (wrong != 0) {
            System.exit(1);
        }
    }
}
