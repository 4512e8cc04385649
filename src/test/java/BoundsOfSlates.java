import java.util.function.Supplier;

/** The boundary cases of told SLATES and of lettings in thought: promises 37 to 39, 46 and 47. */
final class BoundsOfSlates extends Bounds {
    private static final String ENDS = "people 4; law 5 0; law 0 1; law 1 0";

    BoundsOfSlates(Document document) {
        super(document);
    }

    @Override
    void all() {
        in("3. WHAT COMES OF IT");
        wrong();
        fits();
        pushed();
        promise37Judge();
        promise38Fits();
        promise39Pushed();
        promise46After();
        promise47Fewest();
        promise47FewestRefused();
    }

    interface Slated {
        int of(BackByTwice x, int s, int n);
    }

    /** The shop, longs in SHELF 0. */
    private static Supplier<BackByTwice> told(String shop, long... elements) {
        return () -> {
            BackByTwice x = of(shop).get();
            Due.rowOf(x, 0, 3, elements);
            return x;
        };
    }

    private void wrong() {
        hold("WRONG: the first who isn't SERVED then; NONE.", () -> {
            thought("judge, all right", told(ENDS, 0, 1, 2, 3, 0), x -> x.judge(0, 5), NONE);
            thought("judge, the first wrong", told(ENDS, 1, 1, 2, 3, 0), x -> x.judge(0, 5), 0);
            thought("judge, the last wrong", told(ENDS, 0, 1, 2, 3, 3), x -> x.judge(0, 5), 4);
            thought("judge, two wrong", told(ENDS, 0, 1, 3, 2, 0), x -> x.judge(0, 5), 2);
            thought("judge, no such one", told(ENDS, 0, 4), x -> x.judge(0, 2), 1);
            thought("judge, no such one", told(ENDS, 0, -1), x -> x.judge(0, 2), 1);
            thought("judge, more than an int", told(ENDS, 0, (1L << 32) + 1), x -> x.judge(0, 2), 1);
        });
    }

    private void fits() {
        hold("FITS: LAWS (bits) by which it would be so.", () -> {
            thought("fits of none", told(ENDS, 0), x -> x.fits(0, 0), 0b111);
            thought("fits", told(ENDS, 0, 1, 0), x -> x.fits(0, 3), 0b110);
            thought("fits of one", told(ENDS, 0, 1, 2), x -> x.fits(0, 3), 0b001);
            thought("fits, no LAW", told(ENDS, 1), x -> x.fits(0, 1), 0);
            thought("fits of six", told("people 2; law 5 0; law 5 0; law 5 0; law 5 0; law 0 0; law 5 0",
                0, 1), x -> x.fits(0, 2), 0b101111);
        });
    }

    private void pushed() {
        hold("PUSHED: the first move of one of the PEOPLE, by number, to another PLACE, by PLACES (those "
            + "between come nearer to where he was), behind which it would be so (100 times him and the "
            + "PLACE)", () -> {
                thought("0 to 1, not 1 to 0", told(ENDS, 1, 0), x -> x.pushed(0, 2), 1);
                thought("0 to 1, not to 3", told(ENDS, 1), x -> x.pushed(0, 1), 1);
                thought("0 to the last", told(ENDS, 1, 2, 3, 0), x -> x.pushed(0, 4), 3);
                thought("3 to the first", told(ENDS, 3, 0, 1, 2), x -> x.pushed(0, 4), 300);
                thought("15 to the first", told("people 16; law 5 0", 15), x -> x.pushed(0, 1), 1500);
                thought("15 to 14", told("people 16; law 5 0", 0, 1, 2, 3, 4, 5, 6, 7, 8, 9, 10, 11, 12,
                    13, 15), x -> x.pushed(0, 15), 1415);
                thought("0 to 0, who isn't there", told("people 3; law 5 0; let 0", 0, 1, 2),
                    x -> x.pushed(0, 3), 0);
            });
        hold("NONE: it is so already, or by none.", () -> {
            thought("pushed, so already", told(ENDS, 0, 1, 2), x -> x.pushed(0, 3), NONE);
            thought("pushed, so already, by moves, too", told(ENDS, 0), x -> x.pushed(0, 1), NONE);
            thought("pushed, none told", told(ENDS, 3), x -> x.pushed(0, 0), NONE);
            thought("pushed, by none", told(ENDS, 3, 2, 1, 0), x -> x.pushed(0, 4), NONE);
            thought("pushed, no such one", told(ENDS, 4), x -> x.pushed(0, 1), NONE);
            thought("pushed, one alone", told("people 1; law 5 0", 1), x -> x.pushed(0, 1), NONE);
        });
    }

    private void refusedAsJudge(String name, Slated call) {
        refused(name + "(s, 0)", Bounds::usual, outside(0, 7), (x, s) -> call.of(x, s, 0), BAD);
        refused(name + "(0, n)", Bounds::usual, outside(0, 40), (x, n) -> call.of(x, 0, n), BAD);
        refused(name + " of a LAW", Bounds::usual, x -> call.of(x, 6, 0), OTHER);
        refused(name + " of NOTHING", Bounds::usual, x -> call.of(x, 5, 0), NOTHING);
        refused(name + " of fewer", Bounds::usual, edges(4, 40), (x, n) -> call.of(x, 0, n), BAD);
        refused(name + " of nobody", Bounds::nobody, x -> call.of(x, 0, 0), STUCK);
        refused(name + " without LAWS", Bounds::lawless, x -> call.of(x, 0, 0), STUCK);
        inOrder(name, call);
    }

    private void inOrder(String name, Slated call) {
        refused(name + ", BAD n ahead of OTHER", Bounds::usual, outside(0, 40),
            (x, n) -> call.of(x, 6, n), BAD);
        refused(name + ", BAD n ahead of NOTHING", Bounds::usual, outside(0, 40),
            (x, n) -> call.of(x, 5, n), BAD);
        refused(name + ", OTHER ahead of fewer", Bounds::usual, x -> call.of(x, 6, 40), OTHER);
        refused(name + ", NOTHING ahead of fewer", Bounds::usual, x -> call.of(x, 5, 40), NOTHING);
        refused(name + ", OTHER ahead of STUCK", Bounds::nobody, x -> call.of(x, 6, 0), OTHER);
        refused(name + ", NOTHING ahead of STUCK", Bounds::nobody, x -> call.of(x, 5, 0), NOTHING);
        refused(name + ", fewer ahead of STUCK", Bounds::nobody, x -> call.of(x, 0, 5), BAD);
        refused(name + ", fewer ahead of STUCK", Bounds::lawless, x -> call.of(x, 0, 5), BAD);
    }

    private void promise37Judge() {
        in("Promise 37:");
        hold("by the first n elements (0 to 40) of the ROW in SHELF s; NONE.", () -> {
            thought("judge(0, 0)", told(ENDS, 3), x -> x.judge(0, 0), NONE);
            thought("judge(0, 2)", told(ENDS, 0, 1, 1), x -> x.judge(0, 2), NONE);
            thought("judge(0, 3)", told(ENDS, 0, 1, 1), x -> x.judge(0, 3), 2);
            thought("judge(0, 40)", told("people 1; law 5 0", new long[40]), x -> x.judge(0, 40), NONE);
            long[] lastWrong = new long[40];
            lastWrong[39] = 1;
            thought("judge(0, 40)", told("people 1; law 5 0", lastWrong), x -> x.judge(0, 40), 39);
            thought("judge of an empty ROW", told(ENDS), x -> x.judge(0, 0), NONE);
        });
        hold("BAD SHELF, n", () -> {
            refused("judge(s, 0)", Bounds::usual, outside(0, 7), (x, s) -> x.judge(s, 0), BAD);
            refused("judge(0, n)", Bounds::usual, outside(0, 40), (x, n) -> x.judge(0, n), BAD);
        });
        hold("OTHER", () -> refused("judge of a LAW", Bounds::usual, x -> x.judge(6, 1), OTHER));
        hold("NOTHING", () -> refused("judge of NOTHING", Bounds::usual, x -> x.judge(5, 1), NOTHING));
        hold("BAD: fewer elements", () -> {
            refused("judge(0, 4)", Bounds::usual, x -> x.judge(0, 4), BAD);
            refused("judge(0, 40)", Bounds::usual, x -> x.judge(0, 40), BAD);
            refused("judge of an empty ROW", told(ENDS), x -> x.judge(0, 1), BAD);
            refused("judge of 39", told(ENDS, new long[39]), x -> x.judge(0, 40), BAD);
        });
        hold("STUCK: nobody, no LAWS", () -> {
            refused("judge of nobody", Bounds::nobody, x -> x.judge(0, 1), STUCK);
            refused("judge without LAWS", Bounds::lawless, x -> x.judge(0, 1), STUCK);
        });
        hold("BAD SHELF, n; OTHER; NOTHING; BAD: fewer elements; STUCK: nobody, no LAWS.", () ->
            inOrder("judge", BackByTwice::judge));
    }

    private void promise38Fits() {
        in("Promise 38:");
        hold("FITS (bits).", () -> {
            thought("fits of forty", told("people 1; law 5 0; law 0 3", new long[40]),
                x -> x.fits(0, 40), 0b11);
            thought("fits, whatever is in force", told(ENDS + "; use 1", 0, 1, 2), x -> x.fits(0, 3), 1);
        });
        hold("Refused as judge().", () -> refusedAsJudge("fits", BackByTwice::fits));
    }

    private void promise39Pushed() {
        in("Promise 39:");
        hold("PUSHED; NONE.", () -> {
            thought("pushed", told(ENDS, 0, 2, 1, 3), x -> x.pushed(0, 4), 102);
            thought("pushed by the LAW IN FORCE", told(ENDS + "; use 1", 1, 0, 1, 0),
                x -> x.pushed(0, 4), 1);
            thought("pushed, none", told(ENDS, 1, 0, 1, 0), x -> x.pushed(0, 4), NONE);
        });
        hold("Refused as judge().", () -> refusedAsJudge("pushed", BackByTwice::pushed));
        hold("(NONE isn't refused.)", () ->
            thought("pushed, NONE", told(ENDS, 9), x -> x.pushed(0, 1), NONE));
    }

    private void promise46After() {
        in("Promise 46:");
        hold("he at each of the first n PLACES (0 to 40 of them) in the ROW in SHELF s let the one behind "
            + "go before", () -> {
                thought("after none", told(ENDS, 0), x -> x.after(0, 0), 0);
                thought("after one", told(ENDS, 0, 0), x -> x.after(0, 1), 1);
                thought("after two", told(ENDS, 0, 0), x -> x.after(0, 2), 0);
                thought("one behind the other", told(ENDS, 2, 1, 0), x -> x.after(0, 3), 3);
                thought("not all at once", told(ENDS, 0, 1, 0), x -> x.after(0, 3), 2);
                thought("after thirty-nine", told(ENDS, new long[40]), x -> x.after(0, 39), 1);
                thought("after forty", told(ENDS, new long[40]), x -> x.after(0, 40), 0);
            });
        hold("Refused as judge()", () -> refusedAsJudge("after", BackByTwice::after));
        hold("STUCK, too: nobody is behind such a PLACE, no such one.", () -> {
            thought("after the last but one", told(ENDS, 2), x -> x.after(0, 1), 0);
            refused("after the last", told(ENDS, 3), x -> x.after(0, 1), STUCK);
            refused("after the last, later", told(ENDS, 0, 3), x -> x.after(0, 2), STUCK);
            thought("after those ahead of it", told(ENDS, 0, 3), x -> x.after(0, 1), 1);
            long[] none = {4, -1, Integer.MAX_VALUE, Integer.MIN_VALUE, 1L << 32, Long.MAX_VALUE,
                Long.MIN_VALUE};
            for (long place : none) {
                refused("after " + place, told(ENDS, place), x -> x.after(0, 1), STUCK);
            }
            refused("after one alone", told("people 1; law 5 0", 0), x -> x.after(0, 1), STUCK);
        });
    }

    private void promise47Fewest() {
        in("Promise 47:");
        hold("By how few lettings before all would stand as the ROW in SHELF s has them (from PLACE 0 on, "
            + "as many as there are)", () -> {
                thought("fewest, so already", told(ENDS, 0, 1, 2, 3), x -> x.fewest(0), 0);
                thought("fewest of one", told(ENDS, 0, 1, 3, 2), x -> x.fewest(0), 1);
                thought("fewest, all about", told(ENDS, 3, 2, 1, 0), x -> x.fewest(0), 6);
                thought("fewest, the last first", told(ENDS, 3, 0, 1, 2), x -> x.fewest(0), 3);
                thought("fewest of a longer ROW", told(ENDS, 1, 0, 2, 3, 99, 0), x -> x.fewest(0), 1);
                thought("fewest of one alone", told("people 1; law 5 0", 0), x -> x.fewest(0), 0);
                thought("fewest of sixteen", told("people 16; law 5 0", 15, 14, 13, 12, 11, 10, 9, 8, 7,
                    6, 5, 4, 3, 2, 1, 0), x -> x.fewest(0), 120);
            });
    }

    private void promise47FewestRefused() {
        hold("Refused as judge() (with as many as there are)", () -> {
            refused("fewest(s)", Bounds::usual, outside(0, 7), BackByTwice::fewest, BAD);
            refused("fewest of a LAW", Bounds::usual, x -> x.fewest(6), OTHER);
            refused("fewest of NOTHING", Bounds::usual, x -> x.fewest(5), NOTHING);
            refused("fewest of fewer", told(ENDS, 0, 1, 2), x -> x.fewest(0), BAD);
            refused("fewest of none", told(ENDS), x -> x.fewest(0), BAD);
            refused("fewest of nobody", Bounds::nobody, x -> x.fewest(0), STUCK);
            refused("fewest of nobody, an empty ROW", told("law 5 0"), x -> x.fewest(0), STUCK);
            refused("fewest without LAWS", Bounds::lawless, x -> x.fewest(0), STUCK);
            refused("OTHER ahead of STUCK", Bounds::nobody, x -> x.fewest(6), OTHER);
            refused("NOTHING ahead of STUCK", Bounds::nobody, x -> x.fewest(5), NOTHING);
            refused("fewer ahead of STUCK", told("people 3", 0, 1), x -> x.fewest(0), BAD);
        });
        hold("STUCK, too: it isn't all of them.", () -> {
            long[][] rows = {{0, 1, 2, 2}, {1, 2, 3, 3}, {3, 2, 1, 1}, {0, 1, 2, 4}, {1, 2, 3, 4}, {0, 1, 2, -1}, {0, 0, 0, 0},
                {0, 1, 2, (1L << 32) + 3}, {0, 1, 2, 35}, {Long.MIN_VALUE, 1, 2, 3},
                {0, 1, 2, Long.MAX_VALUE}, {0, 1, 2, 2, 3}};
            for (long[] row : rows) {
                refused("fewest " + java.util.Arrays.toString(row), told(ENDS, row), x -> x.fewest(0),
                    STUCK);
            }
            refused("fewest of one alone", told("people 1; law 5 0", 1), x -> x.fewest(0), STUCK);
        });
    }
}
