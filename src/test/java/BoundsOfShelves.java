import java.util.function.Supplier;

/** The boundary cases of a new object, SHELVES, ROWS and LAWS shown: promises 1 to 8. */
final class BoundsOfShelves extends Bounds {
    private static final long[] WRAPS = {0, 1, -1, 127, 128, 255, 256, -128, -129, 32767, 32768, 65535,
        65536, -32768, -32769, Integer.MAX_VALUE, Integer.MIN_VALUE, 1L << 31, 1L << 32,
        (1L << 32) + 5, -(1L << 31) - 1, 1L << 40, Long.MAX_VALUE, Long.MIN_VALUE};

    BoundsOfShelves(Document document) {
        super(document);
    }

    @Override
    void all() {
        in("3. WHAT COMES OF IT");
        shelves();
        lowestBits();
        promise1ANewObject();
        promise2Row();
        promise3Set();
        promise4Copy();
        promise4CopyRefused();
        promise5Element();
        promise6Holds();
        promise7Show();
        promise8Says();
        promise8SaysRefused();
    }

    private void shelves() {
        hold("SHELVES 0 to 7 hold NOTHING (at first), a ROW, or a LAW.", () -> {
            BackByTwice x = Due.shopOf("law 5 0");
            for (int s = 0; s <= 7; s++) {
                is("holds at first", x.holds(s), NONE);
                is("row", x.row(s, 2, 1), 1);
                is("holds a ROW", x.holds(s), 2);
                is("show", x.show(s, 0), 1);
                is("holds a LAW", x.holds(s), 10);
            }
            is("SHELVES that hold something", x.status(8), 8);
            refused("row(s, 0, 0)", Bounds::usual, outside(0, 7), (y, s) -> y.row(s, 0, 0), BAD);
        });
        hold("A ROW has a SORT (0 bytes, 1 shorts, 2 ints, 3 longs, 4 booleans)", () -> {
            long[] kept = {-1, -1, -1, 0xfffffffffL, 1};
            for (int sort = 0; sort <= 4; sort++) {
                BackByTwice x = new BackByTwice();
                is("row", x.row(0, sort, 1), 1);
                is("holds", x.holds(0), sort);
                x.set(0, 0, 0xfffffffffL);
                is("what is kept", x.element(0, 0), kept[sort]);
            }
            refused("row(0, sort, 0)", Bounds::usual, outside(0, 4), (x, sort) -> x.row(0, sort, 0), BAD);
        });
        hold("0 to 40 elements (0, or not so, at first)", () -> {
            for (int sort = 0; sort <= 4; sort++) {
                BackByTwice x = new BackByTwice();
                x.row(0, sort, 0);
                is("set in none", x.set(0, 0, 1), BAD);
                x.row(0, sort, 40);
                for (int i = 0; i < 40; i++) {
                    is("element at first", x.element(0, i), 0);
                    is("set", x.set(0, i, 1), 1);
                }
                is("set behind forty", x.set(0, 40, 1), BAD);
                x.row(0, sort, 40);
                for (int i = 0; i < 40; i++) {
                    is("element at first, again", x.element(0, i), 0);
                }
            }
            refused("row(0, 0, n)", Bounds::usual, outside(0, 40), (x, n) -> x.row(0, 0, n), BAD);
        });
    }

    private void keeps(int sort, long v, long kept) {
        BackByTwice x = new BackByTwice();
        x.row(0, sort, 3);
        is("set", x.set(0, 1, v), 1);
        is("what is kept of " + v + ", sort " + sort, x.element(0, 1), kept);
        is("the one ahead", x.element(0, 0), 0);
        is("the one behind", x.element(0, 2), 0);
    }

    private void lowestBits() {
        hold("what is put in keeps its lowest bits", () -> {
            for (long v : WRAPS) {
                keeps(0, v, (byte) v);
                keeps(1, v, (short) v);
                keeps(2, v, (int) v);
                keeps(3, v, v);
            }
            keeps(0, 128, -128);
            keeps(0, -129, 127);
            keeps(1, 32768, -32768);
            keeps(2, 1L << 31, Integer.MIN_VALUE);
            keeps(2, (1L << 32) + 5, 5);
        });
        hold("(of booleans: whether it is not 0); told they are numbers (1, 0)", () -> {
            for (long v : WRAPS) {
                keeps(4, v, v == 0 ? 0 : 1);
            }
        });
    }

    private void promise1ANewObject() {
        in("Promise 1:");
        hold("Nobody, no LAWS", () -> {
            BackByTwice x = new BackByTwice();
            is("people", x.status(0), 0);
            is("laws", x.status(1), 0);
            is("in force", x.status(2), 0);
            is("TURNS", x.status(3), 0);
            is("all COUNTS", x.status(4), 0);
            is("the greatest LAST", x.status(5), 0);
            is("SEED", x.status(7), 1);
            is("at(0)", x.at(0), BAD);
            is("lawOf(0, 0)", x.lawOf(0, 0), BAD);
            is("back", x.back(), STUCK);
        });
        hold("SHELVES hold NOTHING", () -> {
            BackByTwice x = new BackByTwice();
            for (int s = 0; s < 8; s++) {
                is("holds", x.holds(s), NONE);
            }
            is("SHELVES that hold something", x.status(8), 0);
        });
        hold("THE TAPE is empty", () -> {
            is("size", new BackByTwice().status(6), 0);
            is("wipe", new BackByTwice().wipe(), 0);
            is("shop", new BackByTwice().shop(), -20);
            is("feed", new BackByTwice().feed(32), 1);
        });
    }

    private void promise2Row() {
        in("Promise 2:");
        hold("SHELF s holds a new ROW: 1.", () -> {
            done("row(s, 4, 40)", Bounds::usual, edges(0, 7), (x, s) -> x.row(s, 4, 40), 1);
            done("row(0, sort, 40)", Bounds::usual, edges(0, 4), (x, sort) -> x.row(0, sort, 40), 1);
            done("row(0, 1, n)", Bounds::usual, edges(0, 40), (x, n) -> x.row(0, 1, n), 1);
            BackByTwice x = done("row over a ROW", Bounds::usual, y -> y.row(0, 0, 2), 1);
            is("an old element", x.element(0, 1), 0);
            is("set behind a shorter ROW", x.set(0, 2, 1), BAD);
            is("holds over a LAW", done("row", Bounds::usual, y -> y.row(6, 3, 0), 1).holds(6), 3);
        });
        hold("BAD", () -> {
            refused("row(s, 0, 3)", Bounds::usual, outside(0, 7), (x, s) -> x.row(s, 0, 3), BAD);
            refused("row(0, sort, 3)", Bounds::usual, outside(0, 4), (x, v) -> x.row(0, v, 3), BAD);
            refused("row(0, 0, n)", Bounds::usual, outside(0, 40), (x, n) -> x.row(0, 0, n), BAD);
        });
    }

    private void promise3Set() {
        in("Promise 3:");
        hold("Element i of the ROW in SHELF s becomes v: 1.", () -> {
            for (int i : edges(0, 2)) {
                BackByTwice x = done("set(0, i, 77)", Bounds::usual, y -> y.set(0, i, 77), 1);
                is("element", x.element(0, i), 77);
                is("the one between", x.element(0, 1), 1);
            }
            is("SHELF 7", done("set", Bounds::usual, y -> y.set(7, 1, 5), 1).element(7, 1), 5);
        });
        hold("BAD SHELF", () -> refused("set(s, 0, 1)", Bounds::usual, outside(0, 7),
            (x, s) -> x.set(s, 0, 1), BAD));
        hold("OTHER", () -> refused("set of a LAW", Bounds::usual, x -> x.set(6, 0, 1), OTHER));
        hold("NOTHING", () -> refused("set of NOTHING", Bounds::usual, x -> x.set(5, 0, 1), NOTHING));
        hold("BAD i", () -> {
            refused("set(0, i, 1)", Bounds::usual, outside(0, 2), (x, i) -> x.set(0, i, 1), BAD);
            refused("set(3, i, 1)", Bounds::usual, outside(0, 0), (x, i) -> x.set(3, i, 1), BAD);
            refused("set(0, 40, 1)", Bounds::usual, x -> x.set(0, 40, 1), BAD);
        });
        hold("BAD SHELF; OTHER; NOTHING; BAD i.", () -> {
            refused("BAD SHELF first", Bounds::usual, x -> x.set(8, -1, 1), BAD);
            refused("OTHER ahead of BAD i", Bounds::usual, x -> x.set(6, -1, 1), OTHER);
            refused("NOTHING ahead of BAD i", Bounds::usual, x -> x.set(5, 40, 1), NOTHING);
        });
    }

    private static Supplier<BackByTwice> twoRows() {
        return () -> {
            BackByTwice x = new BackByTwice();
            Due.rowOf(x, 0, 3, 1, 2, 3, 4, 5);
            Due.rowOf(x, 1, 3, 7, 8, 9);
            return x;
        };
    }

    private void isRow(BackByTwice x, int s, long... elements) {
        for (int i = 0; i < elements.length; i++) {
            is("element(" + s + ", " + i + ")", x.element(s, i), elements[i]);
        }
    }

    private void promise4Copy() {
        in("Promise 4:");
        hold("n elements of the ROW in SHELF p from place i on come to places j on of that in q", () -> {
            BackByTwice x = done("copy to the end", twoRows(), y -> y.copy(0, 1, 3, 1, 2), 2);
            isRow(x, 0, 1, 2, 3, 4, 5);
            isRow(x, 1, 7, 4, 5);
            isRow(done("copy of all", twoRows(), y -> y.copy(1, 0, 0, 0, 3), 3), 0, 7, 8, 9, 4, 5);
            isRow(done("copy of none", twoRows(), y -> y.copy(0, 1, 5, 3, 0), 0), 1, 7, 8, 9);
        });
        hold("(as they were)", () -> {
            isRow(done("copy to later places", twoRows(), y -> y.copy(0, 0, 0, 1, 4), 4), 0, 1, 1, 2, 3, 4);
            isRow(done("copy to places ahead", twoRows(), y -> y.copy(0, 0, 1, 0, 4), 4), 0, 2, 3, 4, 5, 5);
        });
    }

    private void promise4CopyRefused() {
        hold("BAD SHELVES", () -> {
            refused("copy(p, 0, 0, 0, 1)", Bounds::usual, outside(0, 7),
                (x, p) -> x.copy(p, 0, 0, 0, 1), BAD);
            refused("copy(0, q, 0, 0, 1)", Bounds::usual, outside(0, 7),
                (x, q) -> x.copy(0, q, 0, 0, 1), BAD);
        });
        hold("OTHER (also ROWS of two SORTS, if both hold something)", () -> {
            refused("copy from a LAW", Bounds::usual, x -> x.copy(6, 0, 0, 0, 1), OTHER);
            refused("copy to a LAW", Bounds::usual, x -> x.copy(0, 6, 0, 0, 1), OTHER);
            refused("copy of a LAW to itself", Bounds::usual, x -> x.copy(6, 6, 0, 0, 0), OTHER);
            for (int s = 0; s <= 4; s++) {
                for (int t = 0; t <= 4; t++) {
                    int p = s;
                    int q = t;
                    if (p != q) {
                        refused("copy of two SORTS", Bounds::usual, x -> x.copy(p, q, 0, 0, 0), OTHER);
                    }
                }
            }
            refused("copy to a SHELF that holds NOTHING", Bounds::usual, x -> x.copy(1, 5, 0, 0, 0),
                NOTHING);
        });
        hold("OTHER (also ROWS of two SORTS, if both hold something); NOTHING", () -> {
            refused("copy from NOTHING", Bounds::usual, x -> x.copy(5, 0, 0, 0, 1), NOTHING);
            refused("copy to NOTHING", Bounds::usual, x -> x.copy(0, 5, 0, 0, 1), NOTHING);
            refused("copy from NOTHING to it", Bounds::usual, x -> x.copy(5, 5, 0, 0, 0), NOTHING);
            refused("copy from NOTHING to a LAW", Bounds::usual, x -> x.copy(5, 6, 0, 0, 1), OTHER);
            refused("copy from a LAW to NOTHING", Bounds::usual, x -> x.copy(6, 5, 0, 0, 1), OTHER);
        });
        hold("BAD the others", () -> {
            refused("copy(0, 7, i, 0, 1)", Bounds::usual, outside(0, 2),
                (x, i) -> x.copy(0, 7, i, 0, 1), BAD);
            refused("copy(0, 7, 0, j, 1)", Bounds::usual, outside(0, 1),
                (x, j) -> x.copy(0, 7, 0, j, 1), BAD);
            refused("copy(0, 7, 0, 0, n)", Bounds::usual, outside(0, 2),
                (x, n) -> x.copy(0, 7, 0, 0, n), BAD);
            refused("copy(7, 0, 0, 0, n)", Bounds::usual, outside(0, 2),
                (x, n) -> x.copy(7, 0, 0, 0, n), BAD);
            refused("copy(0, 7, i, 0, 0)", Bounds::usual, outside(0, 3),
                (x, i) -> x.copy(0, 7, i, 0, 0), BAD);
            refused("copy(0, 7, 0, j, 0)", Bounds::usual, outside(0, 2),
                (x, j) -> x.copy(0, 7, 0, j, 0), BAD);
            refused("copy(0, 7, 1, 1, n)", Bounds::usual, outside(0, 1),
                (x, n) -> x.copy(0, 7, 1, 1, n), BAD);
        });
        hold("BAD SHELVES; OTHER (also ROWS of two SORTS, if both hold something); NOTHING; "
            + "BAD the others.", () -> {
                refused("BAD ahead of OTHER", Bounds::usual, x -> x.copy(6, 8, 0, 0, 1), BAD);
                refused("BAD ahead of NOTHING", Bounds::usual, x -> x.copy(-1, 5, 0, 0, 1), BAD);
                refused("OTHER ahead of BAD", Bounds::usual, x -> x.copy(6, 0, -1, 0, 1), OTHER);
                refused("SORTS ahead of BAD", Bounds::usual, x -> x.copy(0, 1, 0, -1, 1), OTHER);
                refused("NOTHING ahead of BAD", Bounds::usual, x -> x.copy(0, 5, 0, 0, -1), NOTHING);
            });
    }

    private void promise5Element() {
        in("Promise 5:");
        hold("0: none, no ROW (nothing is refused)", () -> {
            thought("element(7, 0)", Bounds::usual, x -> x.element(7, 0), 9);
            thought("element(7, 1)", Bounds::usual, x -> x.element(7, 1), 8);
            thought("element(7, i)", Bounds::usual, outside(0, 1), (x, i) -> x.element(7, i), 0);
            thought("element(0, i)", Bounds::usual, edges(3, 40), (x, i) -> x.element(0, i), 0);
            thought("element of NOTHING", Bounds::usual, x -> x.element(5, 0), 0);
            thought("element of a LAW", Bounds::usual, x -> x.element(6, 0), 0);
            thought("element(s, 0)", Bounds::usual, outside(0, 7), (x, s) -> x.element(s, 0), 0);
            BackByTwice x = usual();
            x.show(7, 0);
            is("element of a LAW over a ROW", x.element(7, 0), 0);
            x.row(7, 0, 0);
            is("element of an empty ROW", x.element(7, 0), 0);
        });
    }

    private void promise6Holds() {
        in("Promise 6:");
        hold("NONE NOTHING, no SHELF", () -> {
            thought("holds NOTHING", Bounds::usual, x -> x.holds(5), NONE);
            thought("holds(s)", Bounds::usual, outside(0, 7), BackByTwice::holds, NONE);
        });
        hold("0 to 4 a ROW by its SORT", () -> {
            for (int sort = 0; sort <= 4; sort++) {
                int s = sort;
                thought("holds(" + s + ")", Bounds::usual, x -> x.holds(s), s);
            }
            BackByTwice x = new BackByTwice();
            x.row(0, 4, 0);
            is("holds an empty ROW", x.holds(0), 4);
        });
        hold("10 and the number of a LAW", () -> {
            for (int law : edges(0, 5)) {
                BackByTwice x = full();
                x.show(7, law);
                is("holds", x.holds(7), 10 + law);
            }
        });
    }

    private void promise7Show() {
        in("Promise 7:");
        hold("SHELF s holds a LAW, or NOTHING (law NONE): 1.", () -> {
            for (int s : edges(0, 7)) {
                is("holds", done("show", Bounds::usual, x -> x.show(s, 0), 1).holds(s), 10);
                is("holds", done("show", Bounds::usual, x -> x.show(s, 2), 1).holds(s), 12);
                is("holds", done("show", Bounds::usual, x -> x.show(s, NONE), 1).holds(s), NONE);
            }
            done("show NOTHING without LAWS", Bounds::lawless, x -> x.show(0, NONE), 1);
        });
        hold("BAD", () -> {
            refused("show(s, 0)", Bounds::usual, outside(0, 7), (x, s) -> x.show(s, 0), BAD);
            refused("show(s, NONE)", Bounds::usual, outside(0, 7), (x, s) -> x.show(s, NONE), BAD);
            refused("show(0, law)", Bounds::usual, outside(NONE, 2), (x, law) -> x.show(0, law), BAD);
            refused("show without LAWS", Bounds::lawless, x -> x.show(0, 0), BAD);
        });
    }

    /** Six LAWS, each of its KIND, in the SHELVES of their numbers; a ROW in 6, NOTHING in 7. */
    private static Supplier<BackByTwice> shown(String people, int last) {
        return () -> {
            BackByTwice x = Due.shopOf(people
                + "law 0 15; law 1 1; law 2 1; law 3 1; law 4 2; law 5 1");
            for (int law = 0; law < 6; law++) {
                x.show(law, law);
            }
            if (last > 0) {
                x.tell(0, 1, last);
            }
            x.row(6, 0, 1);
            return x;
        };
    }

    private void promise8Says() {
        in("Promise 8:");
        hold("DOUBLE, OWN, PLUS, END behind how many he at PLACE 0 would go BACK by it (NONE: nobody)",
            () -> {
                int[][] shelvesAndKinds = {{1, 1}, {2, 2}, {3, 1}, {4, 2}, {4, 4}, {5, 5}};
                int[] due = {4, 1, 4, 3, 3, 8};
                int[] ofFew = {2, 1, 2, 2, 2, 2};
                for (int i = 0; i < due.length; i++) {
                    int s = shelvesAndKinds[i][0];
                    int kind = shelvesAndKinds[i][1];
                    String call = "says(" + s + ", " + kind + ")";
                    thought(call, shown("people 9;", 4), x -> x.says(s, kind), due[i]);
                    thought(call + ", behind all", shown("people 3;", 99), x -> x.says(s, kind), ofFew[i]);
                    thought(call + ", one alone", shown("people 1;", 4), x -> x.says(s, kind), 0);
                    thought(call + ", nobody", shown("", 0), x -> x.says(s, kind), NONE);
                }
            });
        hold("HALF what his LAST would be then (NONE: nobody)", () -> {
            thought("says HALF", shown("people 9;", 7), x -> x.says(3, 3), 14);
            thought("says HALF, as many as others", shown("people 9;", 8), x -> x.says(3, 3), 1);
            thought("says HALF, more", shown("people 9;", 9), x -> x.says(3, 3), 1);
            thought("says HALF, one alone", shown("people 1;", 1), x -> x.says(3, 3), 1);
            thought("says HALF, nobody", shown("", 0), x -> x.says(3, 3), NONE);
        });
        hold("LAW its a", () -> {
            int[] a = {15, 1, 1, 1, 2, 1};
            for (int law = 0; law < 6; law++) {
                int s = law;
                thought("says(" + s + ", 0)", shown("people 3;", 1), x -> x.says(s, 0), a[s]);
                thought("says(" + s + ", 0), nobody", shown("", 0), x -> x.says(s, 0), a[s]);
            }
            BackByTwice x = new BackByTwice();
            x.law(4, 9);
            x.show(0, 0);
            is("says LAW at once", x.says(0, 0), 9);
            is("says PLUS at once", x.says(0, 4), NONE);
        });
    }

    private void promise8SaysRefused() {
        Supplier<BackByTwice> three = shown("people 3;", 1);
        hold("BAD SHELF, KIND", () -> {
            refused("says(s, 0)", three, outside(0, 7), (x, s) -> x.says(s, 0), BAD);
            refused("says(0, kind)", three, outside(0, 5), (x, kind) -> x.says(0, kind), BAD);
        });
        hold("OTHER (also if it is of no such KIND nor of one under it)", () -> {
            refused("says of a ROW", three, x -> x.says(6, 0), OTHER);
            String[] kinds = {"0", "01", "02", "013", "024", "05"};
            for (int law = 0; law < 6; law++) {
                for (int of = 0; of < 6; of++) {
                    int s = law;
                    int kind = of;
                    if (kinds[s].indexOf('0' + kind) < 0) {
                        refused("says(" + s + ", " + kind + ")", three, x -> x.says(s, kind), OTHER);
                    }
                }
            }
        });
        hold("NOTHING", () -> refused("says of NOTHING", three, x -> x.says(7, 0), NOTHING));
        hold("BAD SHELF, KIND; OTHER (also if it is of no such KIND nor of one under it); NOTHING.",
            () -> {
                refused("BAD ahead of OTHER", three, x -> x.says(6, 6), BAD);
                refused("BAD ahead of NOTHING", three, x -> x.says(7, -1), BAD);
                refused("OTHER, nobody", shown("", 0), x -> x.says(1, 3), OTHER);
            });
        hold("(NONE isn't refused.)", () ->
            thought("says, NONE", shown("", 0), x -> x.says(5, 5), NONE));
    }
}
