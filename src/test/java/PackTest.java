/** Promises 40 to 43 and 45: packs of cards, against cards that are really laid into one another. */
public final class PackTest {
    private static final Due DUE = new Due("PackTest");
    private static final boolean[] WAYS = {false, true};

    public static void main(String[] args) {
        promise40Again();
        promise41Lies();
        promise42Stay();
        promise43Rounds();
        promise45Brings();
        promise45BringsOfEveryPack();
        refused();
        everyPack();
        DUE.end();
    }

    private static void promise40Again() {
        BackByTwice x = new BackByTwice();
        int[][] due = {{52, 8, 52}, {2, 1, 2}, {3, 2, 2}, {4, 2, 4}, {5, 4, 4}, {8, 3, 6},
            {51, 8, 8}, {32, 5, 10}, {50, 21, 8}};
        for (int[] d : due) {
            DUE.answered("again(" + d[0] + ", OUT)", x, () -> x.again(d[0], false), d[1]);
            DUE.answered("again(" + d[0] + ", IN)", x, () -> x.again(d[0], true), d[2]);
        }
    }

    private static void promise41Lies() {
        BackByTwice x = new BackByTwice();
        // OUT of 0 1 2 3 4 5 6 is 0 4 1 5 2 6 3, IN is 3 0 4 1 5 2 6; of 0 .. 5 0 3 1 4 2 5, 3 0 4 1 5 2.
        int[] outOdd = {0, 2, 4, 6, 1, 3, 5};
        int[] inOdd = {1, 3, 5, 0, 2, 4, 6};
        int[] outEven = {0, 2, 4, 1, 3, 5};
        int[] inEven = {1, 3, 5, 0, 2, 4};
        for (int place = 0; place < 7; place++) {
            DUE.is("OUT of 7, " + place, x.lies(7, false, place, 1), outOdd[place]);
            DUE.is("IN of 7, " + place, x.lies(7, true, place, 1), inOdd[place]);
            DUE.is("7, not shuffled", x.lies(7, true, place, 0), place);
        }
        for (int place = 0; place < 6; place++) {
            DUE.is("OUT of 6, " + place, x.lies(6, false, place, 1), outEven[place]);
            DUE.is("IN of 6, " + place, x.lies(6, true, place, 1), inEven[place]);
        }
        DUE.answered("OUT of 52, three times", x, () -> x.lies(52, false, 1, 3), 8);
        DUE.answered("OUT of 52, 999 = 8 * 124 + 7 times", x, () -> x.lies(52, false, 2, 999), 1);
        DUE.answered("IN of 52, 26 times", x, () -> x.lies(52, true, 0, 26), 51);
    }

    private static void promise42Stay() {
        BackByTwice x = new BackByTwice();
        DUE.answered("stay of 52, OUT", x, () -> x.stay(52, false, 1), 2);
        DUE.answered("stay of 52, IN", x, () -> x.stay(52, true, 1), 0);
        DUE.answered("stay of 52, IN, 52 times", x, () -> x.stay(52, true, 52), 52);
        DUE.answered("stay of 52, OUT, 999 times", x, () -> x.stay(52, false, 999), 2);
        DUE.answered("stay of 52, OUT, 992 times", x, () -> x.stay(52, false, 992), 52);
        DUE.answered("stay of 52, OUT twice", x, () -> x.stay(52, false, 2), 4);
        DUE.answered("stay of 7, IN", x, () -> x.stay(7, true, 1), 1);
        DUE.answered("stay of 7, not shuffled", x, () -> x.stay(7, true, 0), 7);
        DUE.answered("stay of 2, OUT", x, () -> x.stay(2, false, 1), 2);
        DUE.answered("stay of 2, IN", x, () -> x.stay(2, true, 1), 0);
    }

    private static void promise43Rounds() {
        BackByTwice x = new BackByTwice();
        DUE.answered("rounds of 52, IN", x, () -> x.rounds(52, true), 1);
        // 0 and 51 stay, 17 and 34 change, and 48 others go about by eights.
        DUE.answered("rounds of 52, OUT", x, () -> x.rounds(52, false), 2 + 1 + 6);
        DUE.answered("rounds of 2, OUT", x, () -> x.rounds(2, false), 2);
        DUE.answered("rounds of 2, IN", x, () -> x.rounds(2, true), 1);
        DUE.answered("rounds of 7, OUT", x, () -> x.rounds(7, false), 3);
        DUE.answered("rounds of 7, IN", x, () -> x.rounds(7, true), 3);
        DUE.answered("rounds of 6, OUT", x, () -> x.rounds(6, false), 3);
        DUE.answered("rounds of 6, IN", x, () -> x.rounds(6, true), 2);
    }

    private static void promise45Brings() {
        BackByTwice x = new BackByTwice();
        int[] ten = {1, 0, 1, 0};
        DUE.answered("brings(52, 10)", x, () -> x.brings(52, 10, -1), 4);
        for (int i = 0; i < 4; i++) {
            int one = i;
            DUE.answered("brings(52, 10, " + i + ")", x, () -> x.brings(52, 10, one), ten[one]);
        }
        DUE.refused("brings(52, 10, 4)", x, () -> x.brings(52, 10, 4), -5);
        DUE.refused("brings, far more", x, () -> x.brings(52, 10, Integer.MAX_VALUE), -5);
        DUE.answered("brings, none needed", x, () -> x.brings(9, 0, -1), 0);
        DUE.refused("brings, none needed", x, () -> x.brings(9, 0, 0), -5);
        DUE.answered("brings to the last", x, () -> x.brings(52, 51, -1), 6);
        DUE.answered("brings(2, 1)", x, () -> x.brings(2, 1, -1), 1);
        DUE.answered("brings(2, 1, 0)", x, () -> x.brings(2, 1, 0), 1);
    }

    /** The pack behind one shuffle: card by card from the two halves. */
    private static int[] shuffle(int[] pack, boolean in) {
        int upper = in ? pack.length / 2 : pack.length - pack.length / 2;
        int[] laid = new int[pack.length];
        int fromUpper = 0;
        int fromLower = upper;
        for (int i = 0; i < pack.length; i++) {
            boolean takesUpper = (i % 2 == 0) != in;
            laid[i] = takesUpper ? pack[fromUpper++] : pack[fromLower++];
        }
        return laid;
    }

    private static int placeOf(int[] pack, int card) {
        int place = 0;
        while (pack[place] != card) {
            place++;
        }
        return place;
    }

    /** All rows of so many shuffles, by numbers; the first that brings card 0 to the place, or -1. */
    private static int firstRow(int n, int place, int shuffles) {
        for (int row = 0; row < 1 << shuffles; row++) {
            int[] pack = unshuffled(n);
            for (int i = shuffles - 1; i >= 0; i--) {
                pack = shuffle(pack, (row >> i & 1) == 1);
            }
            if (pack[place] == 0) {
                return row;
            }
        }
        return -1;
    }

    private static int[] unshuffled(int n) {
        int[] pack = new int[n];
        for (int i = 0; i < n; i++) {
            pack[i] = i;
        }
        return pack;
    }

    private static void promise45BringsOfEveryPack() {
        for (int n = 2; n <= 52; n++) {
            BackByTwice x = new BackByTwice();
            for (int place = 0; place < n; place++) {
                int shuffles = 0;
                int row = firstRow(n, place, 0);
                while (row < 0) {
                    shuffles++;
                    row = firstRow(n, place, shuffles);
                }
                String call = "brings(" + n + ", " + place + ", ";
                DUE.is(call + "NONE)", x.brings(n, place, -1), shuffles);
                for (int i = 0; i < shuffles; i++) {
                    DUE.is(call + i + ")", x.brings(n, place, i), row >> (shuffles - 1 - i) & 1);
                }
                DUE.is(call + shuffles + ")", x.brings(n, place, shuffles), -5);
            }
        }
    }

    private static void refused() {
        BackByTwice x = new BackByTwice();
        for (boolean in : WAYS) {
            for (int n : new int[] {1, 53, 0, -2, Integer.MIN_VALUE, Integer.MAX_VALUE}) {
                DUE.refused("again(" + n + ")", x, () -> x.again(n, in), -2);
            }
        }
        BackByTwice y = new BackByTwice();
        int[][] noLies = {{1, 0, 0}, {53, 0, 0}, {5, -1, 0}, {5, 5, 0}, {5, 0, -1}, {5, 0, 1000}};
        int[][] noStay = {{1, 0}, {53, 0}, {5, -1}, {5, 1000}, {0, 0}};
        for (boolean in : WAYS) {
            for (int[] b : noLies) {
                DUE.refused("lies" + java.util.Arrays.toString(b), y,
                    () -> y.lies(b[0], in, b[1], b[2]), -2);
            }
            for (int[] b : noStay) {
                DUE.refused("stay" + java.util.Arrays.toString(b), y,
                    () -> y.stay(b[0], in, b[1]), -2);
            }
            DUE.refused("rounds(1)", y, () -> y.rounds(1, in), -2);
            DUE.refused("rounds(53)", y, () -> y.rounds(53, in), -2);
        }
        BackByTwice z = new BackByTwice();
        int[][] noBrings = {{1, 0, -1}, {53, 0, -1}, {5, -1, -1}, {5, 5, -1}, {5, 3, -2},
            {5, 5, 9}, {5, 3, Integer.MIN_VALUE}};
        for (int[] b : noBrings) {
            DUE.refused("brings" + java.util.Arrays.toString(b), z,
                () -> z.brings(b[0], b[1], b[2]), -2);
        }
    }

    private static void everyPack() {
        for (int n = 2; n <= 52; n++) {
            for (boolean in : WAYS) {
                BackByTwice x = new BackByTwice();
                String way = n + (in ? ", IN" : ", OUT");
                int[] pack = shuffle(unshuffled(n), in);
                int times = 1;
                while (!isUnshuffled(pack)) {
                    likeCards(x, pack, in, times, way);
                    pack = shuffle(pack, in);
                    times++;
                }
                DUE.is("again(" + way + ")", x.again(n, in), times);
                DUE.is("stay(" + way + ", " + times + ")", x.stay(n, in, times), n);
                DUE.is("rounds(" + way + ")", x.rounds(n, in), roundsOf(n, in));
            }
        }
    }

    private static boolean isUnshuffled(int[] pack) {
        for (int place = 0; place < pack.length; place++) {
            if (pack[place] != place) {
                return false;
            }
        }
        return true;
    }

    private static void likeCards(BackByTwice x, int[] pack, boolean in, int times, String way) {
        int staying = 0;
        for (int place = 0; place < pack.length; place++) {
            staying += pack[place] == place ? 1 : 0;
        }
        DUE.is("stay(" + way + ", " + times + ")", x.stay(pack.length, in, times), staying);
        int card = times % pack.length;
        DUE.is("lies(" + way + ", " + card + ", " + times + ")",
            x.lies(pack.length, in, card, times), placeOf(pack, card));
    }

    private static int roundsOf(int n, boolean in) {
        int[] behindOne = shuffle(unshuffled(n), in);
        boolean[] seen = new boolean[n];
        int rounds = 0;
        for (int card = 0; card < n; card++) {
            if (!seen[card]) {
                rounds++;
                for (int place = card; !seen[place]; place = placeOf(behindOne, place)) {
                    seen[place] = true;
                }
            }
        }
        return rounds;
    }
}
