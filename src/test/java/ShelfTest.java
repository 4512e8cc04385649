/** Promises 1 to 8: a new object, rows and laws in shelves. */
public final class ShelfTest {
    private static final Due DUE = new Due("ShelfTest");

    public static void main(String[] args) {
        promise1ANewObject();
        promise2Row();
        promise2RowIsNew();
        promise3Set();
        promise3SetRefused();
        promise4Copy();
        promise4CopyWithinOneRow();
        promise4CopyRefused();
        promise5Element();
        promise6Holds();
        promise7Show();
        promise8Says();
        promise8SaysAtMostTheOthers();
        promise8SaysOfNobody();
        promise8SaysRefused();
        DUE.end();
    }

    private static void promise1ANewObject() {
        BackByTwice x = new BackByTwice();
        for (int what = 0; what <= 8; what++) {
            DUE.is("new: status(" + what + ")", x.status(what), what == 7 ? 1 : 0);
        }
        for (int what = 12; what <= 16; what++) {
            DUE.is("new: status(" + what + ")", x.status(what), 0);
        }
        for (int s = 0; s < 8; s++) {
            DUE.is("new: holds(" + s + ")", x.holds(s), BackByTwice.NONE);
        }
        DUE.is("new: unserved", x.unserved(), 0);
        DUE.is("new: wipe", x.wipe(), 0);
        DUE.is("new: seed", x.seed(7), 1);
        DUE.is("new: anew", x.anew(), 0);
        DUE.refused("new: back", x, x::back, -5);
        DUE.refused("new: shop", x, () -> x.shop() == -20 ? -2 : 0, -2);
        DUE.is("NONE", BackByTwice.NONE, -1);
    }

    private static void promise2Row() {
        BackByTwice x = new BackByTwice();
        for (int sort = 0; sort <= 4; sort++) {
            DUE.is("row(" + sort + ")", x.row(sort, sort, 3), 1);
            DUE.is("holds(" + sort + ")", x.holds(sort), sort);
            DUE.is("element(" + sort + ", 2)", x.element(sort, 2), 0);
        }
        DUE.is("row(7, 0, 0)", x.row(7, 0, 0), 1);
        DUE.is("holds(7)", x.holds(7), 0);
        DUE.is("row(6, 3, 40)", x.row(6, 3, 40), 1);
        DUE.is("set(6, 39, 5)", x.set(6, 39, 5), 1);
        DUE.is("status(8)", x.status(8), 7);
        int[][] bad = {{-1, 0, 3}, {8, 0, 3}, {0, -1, 3}, {0, 5, 3}, {0, 0, -1}, {0, 0, 41},
            {Integer.MIN_VALUE, 0, 0}, {Integer.MAX_VALUE, 0, 0}, {0, 0, Integer.MAX_VALUE}};
        for (int[] b : bad) {
            DUE.refused("row" + java.util.Arrays.toString(b), x, () -> x.row(b[0], b[1], b[2]), -2);
        }
        DUE.is("holds(0) behind what was refused", x.holds(0), 0);
    }

    private static void promise2RowIsNew() {
        BackByTwice x = Due.shopOf("law 0 3");
        Due.rowOf(x, 0, 3, 11, 12, 13);
        x.row(0, 1, 2);
        DUE.is("an old element in a new row", x.element(0, 0), 0);
        DUE.refused("set behind a shorter row", x, () -> x.set(0, 2, 1), -2);
        x.row(0, 1, 3);
        DUE.is("an old element in a longer row", x.element(0, 2), 0);
        x.show(1, 0);
        DUE.is("row over a law", x.row(1, 2, 1), 1);
        DUE.is("holds of a row over a law", x.holds(1), 2);
    }

    private static void promise3Set() {
        BackByTwice x = new BackByTwice();
        long[][] kept = {
            {0, 127, 127}, {0, 128, -128}, {0, 255, -1}, {0, 256, 0}, {0, -129, 127},
            {1, 32767, 32767}, {1, 32768, -32768}, {1, 65536, 0}, {1, 128, 128},
            {2, 2147483648L, -2147483648L}, {2, 4294967301L, 5}, {2, 32768, 32768},
            {3, Long.MIN_VALUE, Long.MIN_VALUE}, {3, 4294967301L, 4294967301L},
            {4, 0, 0}, {4, 1, 1}, {4, 7, 1}, {4, -1, 1}, {4, 256, 1}, {4, 1L << 40, 1}};
        for (long[] k : kept) {
            x.row(5, (int) k[0], 2);
            DUE.is("set", x.set(5, 1, k[1]), 1);
            DUE.is("what is kept of " + k[1] + " in sort " + k[0], x.element(5, 1), k[2]);
            DUE.is("the one beside it", x.element(5, 0), 0);
            x.set(5, 1, 0);
            DUE.is("set to 0", x.element(5, 1), 0);
        }
    }

    private static void promise3SetRefused() {
        BackByTwice x = Due.shopOf("law 0 3");
        x.show(1, 0);
        x.row(2, 0, 2);
        DUE.refused("set, no shelf", x, () -> x.set(-1, 9, 1), -2);
        DUE.refused("set, no shelf", x, () -> x.set(8, 0, 1), -2);
        DUE.refused("set in a law, ahead of a bad i", x, () -> x.set(1, -1, 1), -3);
        DUE.refused("set in nothing, ahead of a bad i", x, () -> x.set(0, -1, 1), -4);
        DUE.refused("set before the row", x, () -> x.set(2, -1, 1), -2);
        DUE.refused("set behind the row", x, () -> x.set(2, 2, 1), -2);
        x.row(2, 0, 0);
        DUE.refused("set in an empty row", x, () -> x.set(2, 0, 1), -2);
        DUE.is("holds behind what was refused", x.holds(1), 10);
    }

    private static void isRow(BackByTwice x, int s, String what, long... elements) {
        for (int i = 0; i < elements.length; i++) {
            DUE.is(what + ": element(" + s + ", " + i + ")", x.element(s, i), elements[i]);
        }
    }

    private static void promise4Copy() {
        BackByTwice x = new BackByTwice();
        Due.rowOf(x, 0, 3, 1, 2, 3, 4);
        Due.rowOf(x, 1, 3, 9, 9, 9, 9, 9);
        DUE.answered("copy", x, () -> x.copy(0, 1, 1, 2, 3), 3);
        isRow(x, 1, "copied into", 9, 9, 2, 3, 4);
        isRow(x, 0, "copied from", 1, 2, 3, 4);
        DUE.answered("copy of all", x, () -> x.copy(0, 1, 0, 0, 4), 4);
        isRow(x, 1, "copied into", 1, 2, 3, 4, 4);
        DUE.answered("copy of none", x, () -> x.copy(0, 1, 4, 5, 0), 0);
        isRow(x, 1, "copied none into", 1, 2, 3, 4, 4);
        Due.rowOf(x, 2, 4, 1, 1);
        Due.rowOf(x, 3, 4, 0, 0);
        DUE.answered("copy of booleans", x, () -> x.copy(2, 3, 0, 1, 1), 1);
        isRow(x, 3, "copied booleans into", 0, 1);
    }

    private static void promise4CopyWithinOneRow() {
        BackByTwice x = new BackByTwice();
        Due.rowOf(x, 0, 0, 1, 2, 3, 4, 5);
        DUE.answered("copy backward", x, () -> x.copy(0, 0, 0, 1, 4), 4);
        isRow(x, 0, "copied backward", 1, 1, 2, 3, 4);
        Due.rowOf(x, 0, 0, 1, 2, 3, 4, 5);
        DUE.answered("copy forward", x, () -> x.copy(0, 0, 2, 0, 3), 3);
        isRow(x, 0, "copied forward", 3, 4, 5, 4, 5);
    }

    private static void promise4CopyRefused() {
        BackByTwice x = Due.shopOf("law 0 3");
        x.show(1, 0);
        Due.rowOf(x, 2, 0, 1, 2, 3);
        Due.rowOf(x, 3, 1, 1, 2, 3);
        Due.rowOf(x, 4, 0, 7, 8);
        DUE.refused("copy from no shelf", x, () -> x.copy(-1, 1, 0, 0, 1), -2);
        DUE.refused("copy from no shelf", x, () -> x.copy(8, 2, 0, 0, 1), -2);
        DUE.refused("copy to no shelf", x, () -> x.copy(1, -1, 0, 0, 1), -2);
        DUE.refused("copy to no shelf", x, () -> x.copy(0, 8, 0, 0, 1), -2);
        DUE.refused("copy from a law", x, () -> x.copy(1, 2, 0, 0, 9), -3);
        DUE.refused("copy to a law", x, () -> x.copy(2, 1, 0, 0, 1), -3);
        DUE.refused("copy from a law to nothing", x, () -> x.copy(1, 0, 0, 0, 1), -3);
        DUE.refused("copy from nothing to a law", x, () -> x.copy(0, 1, 0, 0, 1), -3);
        DUE.refused("copy between two sorts", x, () -> x.copy(2, 3, -1, 0, 1), -3);
        DUE.refused("copy from nothing", x, () -> x.copy(0, 2, -1, 0, 1), -4);
        DUE.refused("copy to nothing", x, () -> x.copy(2, 0, 0, 0, 9), -4);
        DUE.refused("copy from nothing to nothing", x, () -> x.copy(0, 5, 0, 0, 0), -4);
        int[][] bad = {{-1, 0, 1}, {0, -1, 1}, {0, 0, -1}, {2, 0, 2}, {0, 1, 2}, {0, 0, 3},
            {4, 0, 0}, {0, 3, 0}, {Integer.MAX_VALUE, 0, 1}, {0, Integer.MAX_VALUE, 1},
            {1, 1, Integer.MAX_VALUE}, {Integer.MIN_VALUE, 0, 1}};
        for (int[] b : bad) {
            DUE.refused("copy" + java.util.Arrays.toString(b), x,
                () -> x.copy(2, 4, b[0], b[1], b[2]), -2);
        }
        isRow(x, 4, "behind what was refused", 7, 8);
    }

    private static void promise5Element() {
        BackByTwice x = Due.shopOf("law 0 3");
        Due.rowOf(x, 0, 3, 5, -6);
        x.show(1, 0);
        DUE.answered("element", x, () -> x.element(0, 0), 5);
        DUE.answered("element", x, () -> x.element(0, 1), -6);
        DUE.answered("element behind the row", x, () -> x.element(0, 2), 0);
        DUE.answered("element before the row", x, () -> x.element(0, -1), 0);
        DUE.answered("element of a law", x, () -> x.element(1, 0), 0);
        DUE.answered("element of nothing", x, () -> x.element(2, 0), 0);
        DUE.answered("element of no shelf", x, () -> x.element(-1, 0), 0);
        DUE.answered("element of no shelf", x, () -> x.element(8, 0), 0);
        DUE.answered("element far off", x, () -> x.element(0, Integer.MIN_VALUE), 0);
        DUE.answered("element far off", x, () -> x.element(0, Integer.MAX_VALUE), 0);
        x.show(0, 0);
        DUE.answered("element of a law over a row", x, () -> x.element(0, 0), 0);
        x.show(0, -1);
        DUE.answered("element of nothing over a row", x, () -> x.element(0, 0), 0);
    }

    private static void promise6Holds() {
        BackByTwice x = Due.shopOf("law 0 0; law 0 1; law 0 2; law 0 3; law 0 4; law 0 5");
        DUE.answered("holds nothing", x, () -> x.holds(0), -1);
        DUE.answered("holds of no shelf", x, () -> x.holds(-1), -1);
        DUE.answered("holds of no shelf", x, () -> x.holds(8), -1);
        for (int law = 0; law < 6; law++) {
            x.show(law, law);
            DUE.is("holds a law", x.holds(law), 10 + law);
        }
        for (int sort = 0; sort < 5; sort++) {
            x.row(sort, sort, 0);
            DUE.is("holds a row", x.holds(sort), sort);
        }
    }

    private static void promise7Show() {
        BackByTwice x = Due.shopOf("law 0 0; law 5 1");
        DUE.answered("show", x, () -> x.show(7, 1), 1);
        DUE.is("holds", x.holds(7), 11);
        x.row(6, 0, 3);
        DUE.answered("show over a row", x, () -> x.show(6, 0), 1);
        DUE.is("holds", x.holds(6), 10);
        DUE.answered("show nothing", x, () -> x.show(7, -1), 1);
        DUE.is("holds nothing", x.holds(7), -1);
        DUE.answered("show nothing over nothing", x, () -> x.show(0, -1), 1);
        DUE.is("status(8)", x.status(8), 1);
        DUE.refused("show, no shelf", x, () -> x.show(-1, 0), -2);
        DUE.refused("show, no shelf", x, () -> x.show(8, -1), -2);
        DUE.refused("show, no law", x, () -> x.show(6, 2), -2);
        DUE.refused("show, no law", x, () -> x.show(6, -2), -2);
        DUE.is("holds behind what was refused", x.holds(6), 10);
    }

    /** Laws 0 to 5 of the kinds 0 to 5, in the shelves of their numbers. */
    private static BackByTwice everyKind(String people) {
        BackByTwice x = Due.shopOf(people + "law 0 3; law 1 7; law 2 8; law 3 9; law 4 2; law 5 11");
        for (int law = 0; law < 6; law++) {
            x.show(law, law);
        }
        return x;
    }

    private static void promise8Says() {
        BackByTwice x = everyKind("people 9; count 0 2;");
        x.tell(0, 1, 3);
        int[] a = {3, 7, 8, 9, 2, 11};
        for (int law = 0; law < 6; law++) {
            int s = law;
            DUE.answered("says(" + law + ", LAW)", x, () -> x.says(s, 0), a[law]);
        }
        DUE.answered("says DOUBLE", x, () -> x.says(1, 1), 3);
        DUE.answered("says HALF, taken for a DOUBLE", x, () -> x.says(3, 1), 3);
        DUE.answered("says HALF", x, () -> x.says(3, 3), 6);
        DUE.answered("says OWN, behind his serving", x, () -> x.says(2, 2), 3);
        DUE.answered("says PLUS, taken for an OWN", x, () -> x.says(4, 2), 5);
        DUE.answered("says PLUS", x, () -> x.says(4, 4), 5);
        DUE.answered("says END", x, () -> x.says(5, 5), 8);
        x.lets(0);
        DUE.answered("says of another at PLACE 0", x, () -> x.says(2, 2), 1);
        DUE.is("says changes nothing", x.status(4), 2);
    }

    private static void promise8SaysAtMostTheOthers() {
        BackByTwice x = everyKind("people 4;");
        x.tell(0, 0, 5);
        x.tell(0, 1, 60);
        DUE.is("says DOUBLE behind all", x.says(1, 1), 3);
        DUE.is("says OWN behind all", x.says(2, 2), 3);
        DUE.is("says PLUS behind all", x.says(4, 4), 3);
        DUE.is("says HALF, LAST more than the others", x.says(3, 3), 1);
        x.tell(0, 1, 3);
        DUE.is("says HALF, LAST as many as the others", x.says(3, 3), 1);
        x.tell(0, 1, 2);
        DUE.is("says HALF, LAST less than the others", x.says(3, 3), 4);
        BackByTwice alone = everyKind("people 1;");
        DUE.is("says END of one alone", alone.says(5, 5), 0);
        DUE.is("says DOUBLE of one alone", alone.says(1, 1), 0);
        DUE.is("says HALF of one alone", alone.says(3, 3), 1);
    }

    private static void promise8SaysOfNobody() {
        BackByTwice x = everyKind("");
        int[][] none = {{1, 1}, {2, 2}, {3, 3}, {3, 1}, {4, 4}, {4, 2}, {5, 5}};
        for (int[] n : none) {
            DUE.answered("says of nobody", x, () -> x.says(n[0], n[1]), -1);
        }
        DUE.answered("says LAW of nobody", x, () -> x.says(4, 0), 2);
    }

    private static void promise8SaysRefused() {
        BackByTwice x = everyKind("people 2;");
        x.row(6, 0, 2);
        DUE.refused("says, no shelf", x, () -> x.says(-1, 0), -2);
        DUE.refused("says, no shelf", x, () -> x.says(8, 0), -2);
        DUE.refused("says, no kind, of a row", x, () -> x.says(6, -1), -2);
        DUE.refused("says, no kind, of nothing", x, () -> x.says(7, 6), -2);
        DUE.refused("says of a row", x, () -> x.says(6, 0), -3);
        DUE.refused("says of nothing", x, () -> x.says(7, 0), -4);
        String[] fitting = {"0", "01", "02", "031", "042", "05"};
        for (int law = 0; law < 6; law++) {
            for (int kind = 0; kind < 6; kind++) {
                int s = law;
                int k = kind;
                if (fitting[law].indexOf('0' + kind) < 0) {
                    DUE.refused("says(" + s + ", " + k + ")", x, () -> x.says(s, k), -3);
                }
            }
        }
    }
}
