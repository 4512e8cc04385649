import java.util.function.Supplier;

/** What the tests of boundary cases share. A test tells the promise and the sentence it holds. */
abstract class Bounds {
    static final int NONE = -1;
    static final int BAD = -2;
    static final int OTHER = -3;
    static final int NOTHING = -4;
    static final int STUCK = -5;
    static final int FULL = -6;

    private final Document document;

    Bounds(Document document) {
        this.document = document;
    }

    abstract void all();

    interface Call {
        long of(BackByTwice x);
    }

    interface CallWith {
        long of(BackByTwice x, int v);
    }

    final void in(String heading) {
        document.open(heading);
    }

    final void hold(String sentence, Runnable test) {
        document.hold(sentence, test);
    }

    final void is(String call, long got, long want) {
        document.is(call, got, want);
    }

    /** Refused just so, counted once as that, and nothing else is changed, also not what is kept. */
    final void refused(String call, Supplier<BackByTwice> shop, Call asked, int refusal) {
        BackByTwice x = shop.get();
        is(call, asked.of(x), refusal);
        alike(call, x, shop.get(), refusal);
    }

    final void refused(String call, Supplier<BackByTwice> shop, int[] values, CallWith asked,
            int refusal) {
        for (int v : values) {
            refused(call + " of " + v, shop, x -> asked.of(x, v), refusal);
        }
    }

    /** Answered, nothing refused, nothing changed. */
    final void thought(String call, Supplier<BackByTwice> shop, Call asked, long want) {
        BackByTwice x = shop.get();
        is(call, asked.of(x), want);
        alike(call, x, shop.get(), 0);
    }

    final void thought(String call, Supplier<BackByTwice> shop, int[] values, CallWith asked,
            long want) {
        for (int v : values) {
            thought(call + " of " + v, shop, x -> asked.of(x, v), want);
        }
    }

    /** In truth: answered, nothing refused. */
    final BackByTwice done(String call, Supplier<BackByTwice> shop, Call asked, long want) {
        BackByTwice x = shop.get();
        BackByTwice twin = shop.get();
        is(call, asked.of(x), want);
        refusalsAlike(call, x, twin, 0);
        return x;
    }

    final void done(String call, Supplier<BackByTwice> shop, int[] values, CallWith asked, long want) {
        for (int v : values) {
            done(call + " of " + v, shop, x -> asked.of(x, v), want);
        }
    }

    /** The text is no SHOP: its FAULT is at the place; it is refused as BAD, and nothing has come. */
    final void fault(Supplier<BackByTwice> shop, String text, int place) {
        BackByTwice x = shop.get();
        BackByTwice twin = shop.get();
        x.wipe();
        twin.wipe();
        String call = "shop of \"" + text + "\"";
        is(call, Due.read(x, text), -20 - place);
        alike(call, x, twin, BAD);
    }

    /** The text is a SHOP of so many STATEMENTS; the BackByTwice that has read it. */
    final BackByTwice reads(Supplier<BackByTwice> shop, String text, int statements) {
        BackByTwice x = shop.get();
        x.wipe();
        int bad = x.status(12);
        is("shop of \"" + text + "\"", Due.read(x, text), statements);
        is("BAD behind \"" + text + "\"", x.status(12), bad);
        return x;
    }

    final void nobodyOrLawless(String name, Call call) {
        hold("STUCK: nobody, no LAWS", () -> {
            refused(name + " of nobody", Bounds::nobody, call, STUCK);
            refused(name + " without LAWS", Bounds::lawless, call, STUCK);
            refused(name + " of nothing", Bounds::nothing, call, STUCK);
        });
    }

    /** Just outside and far outside of what may be. */
    static int[] outside(int least, int most) {
        return new int[] {least - 1, most + 1, Integer.MIN_VALUE, Integer.MAX_VALUE};
    }

    static int[] edges(int least, int most) {
        return new int[] {least, most};
    }

    /** Another shop has been read, but with a FAULT: nothing of it may be left in what is asked. */
    private static BackByTwice havingReadAnother(BackByTwice x, String another) {
        if (Due.read(x, another + ";#") >= 0) {
            throw new IllegalStateException("the test's own fault is none: " + another);
        }
        return x;
    }

    /** A shop by its text; it is kept with another SEED, and THE TAPE isn't empty. */
    static Supplier<BackByTwice> of(String text) {
        return () -> {
            BackByTwice x = havingReadAnother(Due.shopOf(text), "law 2 3;use 0;people 1;serve 8");
            x.image();
            x.seed(5);
            Due.feed(x, "count 0 9");
            return x;
        };
    }

    static BackByTwice nothing() {
        return new BackByTwice();
    }

    /** Four PEOPLE, no LAWS. */
    static BackByTwice lawless() {
        BackByTwice x = havingReadAnother(Due.shopOf("people 4"), "law 5 0;people 2;serve 3");
        Due.rowOf(x, 0, 0, 0, 1, 2, 3);
        return x;
    }

    /** Two LAWS, nobody. */
    static BackByTwice nobody() {
        BackByTwice x = havingReadAnother(Due.shopOf("law 0 1; law 5 0"), "law 5 0;people 4;serve 3");
        Due.rowOf(x, 0, 0, 0, 1, 2, 3);
        x.show(6, 1);
        return x;
    }

    /** Sixteen PEOPLE, six LAWS, each of its KIND. */
    static BackByTwice full() {
        BackByTwice x = new BackByTwice();
        for (int person = 0; person < 16; person++) {
            x.comes();
        }
        for (int kind = 0; kind < 6; kind++) {
            x.law(kind, 1);
        }
        return havingReadAnother(x, "leave 15;leave 14;serve 9");
    }

    /**
     * Something of all, nothing as at first: five PEOPLE, row 3 4 2 0 1, COUNTS 1 1 2 7 0, LASTS
     * 3 5 4 2 6; LAWS END, DOUBLE (IN FORCE), LAW 2; TURNS 5; SEED 99; THE TAPE; bytes 0 1 2 in
     * SHELF 0, shorts, ints, longs and booleans in 1 to 4, NOTHING in 5, LAW 1 in 6, bytes 9 8 in 7;
     * another state kept; one refused.
     */
    static BackByTwice usual() {
        BackByTwice x = new BackByTwice();
        for (int person = 0; person < 5; person++) {
            x.comes();
        }
        x.law(5, 3);
        x.law(1, 0);
        x.seed(98);
        x.image();
        x.law(0, 2);
        x.seed(99);
        x.serve(2);
        x.use(1);
        x.serve(3);
        x.tell(3, 0, 7);
        x.tell(4, 1, 6);
        x.tell(0, 1, 3);
        x.tell(1, 1, 5);
        Due.rowOf(x, 0, 0, 0, 1, 2);
        Due.rowOf(x, 1, 1, 5, 6);
        Due.rowOf(x, 2, 2, 4, 3);
        Due.rowOf(x, 3, 3, 7);
        Due.rowOf(x, 4, 4, 1, 0, 1);
        x.show(6, 1);
        Due.rowOf(x, 7, 0, 9, 8);
        havingReadAnother(x, "people 2;law 0 0;use 0;serve 9");
        Due.feed(x, "let 0");
        return x;
    }

    private void refusalsAlike(String call, BackByTwice x, BackByTwice twin, int refusal) {
        for (int i = 0; i < 5; i++) {
            int more = -2 - i == refusal ? 1 : 0;
            is("status(" + (12 + i) + ") behind " + call, x.status(12 + i), twin.status(12 + i) + more);
        }
    }

    /** The twin hasn't been asked: all must be as there, what THE TAPE tells and what is kept, too. */
    final void alike(String call, BackByTwice x, BackByTwice twin, int refusal) {
        refusalsAlike(call, x, twin, refusal);
        knownAlike("behind " + call, x, twin);
        is("shop behind " + call, x.shop(), twin.shop());
        knownAlike("and shop behind " + call, x, twin);
        is("back behind " + call, x.back(), twin.back());
        knownAlike("and back behind " + call, x, twin);
    }

    private void knownAlike(String behind, BackByTwice x, BackByTwice twin) {
        for (int what = 0; what <= 8; what++) {
            is("status(" + what + ") " + behind, x.status(what), twin.status(what));
        }
        for (int one = 0; one < twin.status(0); one++) {
            is("at(" + one + ") " + behind, x.at(one), twin.at(one));
            is("COUNT of " + one + " " + behind, x.personOf(one, 1), twin.personOf(one, 1));
            is("LAST of " + one + " " + behind, x.personOf(one, 2), twin.personOf(one, 2));
        }
        for (int law = 0; law < twin.status(1); law++) {
            is("KIND of " + law + " " + behind, x.lawOf(law, 0), twin.lawOf(law, 0));
            is("a of " + law + " " + behind, x.lawOf(law, 1), twin.lawOf(law, 1));
        }
        for (int s = 0; s < 8; s++) {
            is("holds(" + s + ") " + behind, x.holds(s), twin.holds(s));
            for (int i = 0; i < 3; i++) {
                is("element(" + s + ", " + i + ") " + behind, x.element(s, i), twin.element(s, i));
            }
        }
    }
}
