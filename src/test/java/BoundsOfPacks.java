import java.util.Arrays;

/** The boundary cases of PACKS of cards: promises 40 to 43 and 45. */
final class BoundsOfPacks extends Bounds {
    BoundsOfPacks(Document document) {
        super(document);
    }

    @Override
    void all() {
        in("3. WHAT COMES OF IT");
        packs();
        timesAndPlaces();
        promise40Again();
        promise41Lies();
        promise42Stay();
        promise43Rounds();
        promise45Brings();
        promise45BringsRefused();
    }

    /** Behind one shuffle of 0 .. n - 1: which card lies at each place, card by card laid down. */
    private static int[] shuffled(int n, boolean in) {
        int upper = in ? n / 2 : n - n / 2;
        int[] laid = new int[n];
        int ofUpper = 0;
        int ofLower = upper;
        for (int place = 0; place < n; place++) {
            boolean isOfLower = in == (place % 2 == 0);
            laid[place] = isOfLower ? ofLower++ : ofUpper++;
        }
        return laid;
    }

    private void lieAs(int n, boolean in, int... laid) {
        is("laid down so", Arrays.equals(laid, shuffled(n, in)) ? 1 : 0, 1);
        for (int place = 0; place < n; place++) {
            is("lies(" + n + ", " + in + ", " + laid[place] + ", 1)",
                new BackByTwice().lies(n, in, laid[place], 1), place);
        }
    }

    private void packs() {
        hold("A PACK of n cards (2 to 52)", () -> {
            thought("again(2, OUT)", Bounds::usual, x -> x.again(2, false), 1);
            thought("again(52, OUT)", Bounds::usual, x -> x.again(52, false), 8);
            refused("again(n, OUT)", Bounds::usual, outside(2, 52), (x, n) -> x.again(n, false), BAD);
            refused("again(n, IN)", Bounds::usual, edges(0, 1), (x, n) -> x.again(n, true), BAD);
        });
        hold("OUT: the upper half (the greater one, if they aren't alike) and the lower are laid into one "
            + "another, the first card staying first", () -> {
                lieAs(2, false, 0, 1);
                lieAs(3, false, 0, 2, 1);
                lieAs(4, false, 0, 2, 1, 3);
                lieAs(7, false, 0, 4, 1, 5, 2, 6, 3);
                lieAs(8, false, 0, 4, 1, 5, 2, 6, 3, 7);
                lieAs(51, false, shuffled(51, false));
                lieAs(52, false, shuffled(52, false));
            });
        hold("IN: likewise, the first of the lower half (the greater one) first.", () -> {
            lieAs(2, true, 1, 0);
            lieAs(3, true, 1, 0, 2);
            lieAs(4, true, 2, 0, 3, 1);
            lieAs(7, true, 3, 0, 4, 1, 5, 2, 6);
            lieAs(8, true, 4, 0, 5, 1, 6, 2, 7, 3);
            lieAs(51, true, shuffled(51, true));
            lieAs(52, true, shuffled(52, true));
        });
    }

    private void timesAndPlaces() {
        hold("AGAIN: behind how many times all lie as at first (1 at least).", () -> {
            thought("again(2, OUT), nothing moves", Bounds::usual, x -> x.again(2, false), 1);
            thought("again(2, IN)", Bounds::usual, x -> x.again(2, true), 2);
            thought("again(3, OUT)", Bounds::usual, x -> x.again(3, false), 2);
            thought("again(51, IN)", Bounds::usual, x -> x.again(51, true), 8);
            thought("again(52, IN), the most", Bounds::usual, x -> x.again(52, true), 52);
        });
        hold("LIES: where the card that lay at a place lies behind k times (0 to 999).", () -> {
            thought("lies(52, OUT, 9, 0)", Bounds::usual, x -> x.lies(52, false, 9, 0), 9);
            thought("lies(52, OUT, 2, 999)", Bounds::usual, x -> x.lies(52, false, 2, 999), 1);
            thought("lies(52, IN, 0, 998)", Bounds::usual, x -> x.lies(52, true, 0, 998), power(998));
            thought("lies(52, IN, 0, 999)", Bounds::usual, x -> x.lies(52, true, 0, 999), power(999));
            refused("lies(52, IN, 0, k)", Bounds::usual, outside(0, 999),
                (x, k) -> x.lies(52, true, 0, k), BAD);
        });
    }

    /** By IN, places told from 1 on are doubled modulo 53. */
    private static int power(int k) {
        int place = 1;
        for (int i = 0; i < k; i++) {
            place = 2 * place % 53;
        }
        return place - 1;
    }

    private void promise40Again() {
        in("Promise 40:");
        hold("AGAIN of a PACK of n cards, OUT (in false), IN (true).", () -> {
            for (int n = 2; n <= 52; n++) {
                for (boolean in : new boolean[] {false, true}) {
                    is("again(" + n + ", " + in + ")", new BackByTwice().again(n, in), timesOf(n, in));
                }
            }
        });
        hold("BAD", () -> {
            refused("again(n, OUT)", Bounds::usual, outside(2, 52), (x, n) -> x.again(n, false), BAD);
            refused("again(n, IN)", Bounds::usual, outside(2, 52), (x, n) -> x.again(n, true), BAD);
        });
    }

    private static int timesOf(int n, boolean in) {
        int[] laid = shuffled(n, in);
        int[] pack = laid.clone();
        int times = 1;
        while (!isAsAtFirst(pack)) {
            int[] next = new int[n];
            for (int place = 0; place < n; place++) {
                next[place] = pack[laid[place]];
            }
            pack = next;
            times++;
        }
        return times;
    }

    private static boolean isAsAtFirst(int[] pack) {
        for (int place = 0; place < pack.length; place++) {
            if (pack[place] != place) {
                return false;
            }
        }
        return true;
    }

    private void promise41Lies() {
        in("Promise 41:");
        hold("LIES.", () -> {
            thought("the first, OUT", Bounds::usual, x -> x.lies(52, false, 0, 999), 0);
            thought("the last, OUT", Bounds::usual, x -> x.lies(52, false, 51, 999), 51);
            thought("the last of two, IN", Bounds::usual, x -> x.lies(2, true, 1, 999), 0);
            thought("the last of three, IN", Bounds::usual, x -> x.lies(3, true, 2, 999), 2);
        });
        hold("BAD", () -> {
            refused("lies(n, OUT, 0, 0)", Bounds::usual, outside(2, 52),
                (x, n) -> x.lies(n, false, 0, 0), BAD);
            refused("lies(52, OUT, place, 0)", Bounds::usual, outside(0, 51),
                (x, place) -> x.lies(52, false, place, 0), BAD);
            refused("lies(2, IN, place, 0)", Bounds::usual, outside(0, 1),
                (x, place) -> x.lies(2, true, place, 0), BAD);
            refused("lies(52, OUT, 0, k)", Bounds::usual, outside(0, 999),
                (x, k) -> x.lies(52, false, 0, k), BAD);
        });
    }

    private void promise42Stay() {
        in("Promise 42:");
        hold("behind k times (0 to 999)", () -> {
            thought("stay(52, OUT, 0)", Bounds::usual, x -> x.stay(52, false, 0), 52);
            thought("stay(52, OUT, 1)", Bounds::usual, x -> x.stay(52, false, 1), 2);
            thought("stay(52, OUT, 8)", Bounds::usual, x -> x.stay(52, false, 8), 52);
            thought("stay(52, OUT, 992)", Bounds::usual, x -> x.stay(52, false, 992), 52);
            thought("stay(52, OUT, 999)", Bounds::usual, x -> x.stay(52, false, 999), 2);
            thought("stay(52, IN, 999)", Bounds::usual, x -> x.stay(52, true, 999), 0);
            thought("stay(2, OUT, 999)", Bounds::usual, x -> x.stay(2, false, 999), 2);
            thought("stay(2, IN, 999)", Bounds::usual, x -> x.stay(2, true, 999), 0);
            thought("stay(2, IN, 998)", Bounds::usual, x -> x.stay(2, true, 998), 2);
            refused("stay(52, OUT, k)", Bounds::usual, outside(0, 999),
                (x, k) -> x.stay(52, false, k), BAD);
        });
        hold("BAD", () -> {
            refused("stay(n, OUT, 0)", Bounds::usual, outside(2, 52), (x, n) -> x.stay(n, false, 0), BAD);
            refused("stay(n, IN, 0)", Bounds::usual, outside(2, 52), (x, n) -> x.stay(n, true, 0), BAD);
            refused("stay(2, IN, k)", Bounds::usual, outside(0, 999), (x, k) -> x.stay(2, true, k), BAD);
        });
    }

    private void promise43Rounds() {
        in("Promise 43:");
        hold("(one that stays is a round)", () -> {
            thought("rounds(2, OUT)", Bounds::usual, x -> x.rounds(2, false), 2);
            thought("rounds(2, IN)", Bounds::usual, x -> x.rounds(2, true), 1);
            thought("rounds(3, OUT)", Bounds::usual, x -> x.rounds(3, false), 2);
            thought("rounds(3, IN)", Bounds::usual, x -> x.rounds(3, true), 2);
            thought("rounds(4, OUT)", Bounds::usual, x -> x.rounds(4, false), 3);
            thought("rounds(52, OUT)", Bounds::usual, x -> x.rounds(52, false), roundsOf(52, false));
            thought("rounds(52, IN)", Bounds::usual, x -> x.rounds(52, true), 1);
        });
        hold("BAD", () -> {
            refused("rounds(n, OUT)", Bounds::usual, outside(2, 52), (x, n) -> x.rounds(n, false), BAD);
            refused("rounds(n, IN)", Bounds::usual, outside(2, 52), (x, n) -> x.rounds(n, true), BAD);
        });
    }

    private static int roundsOf(int n, boolean in) {
        int[] laid = shuffled(n, in);
        boolean[] seen = new boolean[n];
        int rounds = 0;
        for (int card = 0; card < n; card++) {
            rounds += seen[card] ? 0 : 1;
            for (int place = card; !seen[place]; place = laid[place]) {
                seen[place] = true;
            }
        }
        return rounds;
    }

    /** The fewest shuffles that bring the first card to each place, found shuffle by shuffle. */
    private static int[] fewestShuffles(int n) {
        int[] fewest = new int[n];
        Arrays.fill(fewest, -1);
        fewest[0] = 0;
        for (int shuffles = 0; shuffles < n; shuffles++) {
            for (boolean in : new boolean[] {false, true}) {
                int[] laid = shuffled(n, in);
                for (int place = 0; place < n; place++) {
                    if (fewest[place] < 0 && fewest[laid[place]] == shuffles) {
                        fewest[place] = shuffles + 1;
                    }
                }
            }
        }
        return fewest;
    }

    private void promise45Brings() {
        in("Promise 45:");
        hold("By how few shuffles of a PACK of n cards, each OUT or IN as one likes, the first card comes "
            + "to a place (i NONE)", () -> {
                thought("brings(52, 0, NONE): none at all", Bounds::usual, x -> x.brings(52, 0, NONE), 0);
                thought("brings(52, 1, NONE)", Bounds::usual, x -> x.brings(52, 1, NONE), 1);
                thought("brings(52, 51, NONE)", Bounds::usual, x -> x.brings(52, 51, NONE), 6);
                thought("brings(2, 1, NONE)", Bounds::usual, x -> x.brings(2, 1, NONE), 1);
            });
        hold("the i-th of them (0 OUT, 1 IN; of all such rows the first by numbers)", () -> {
            int[] due = {1, 1, 0, 0, 1, 1};
            for (int shuffle = 0; shuffle < due.length; shuffle++) {
                int i = shuffle;
                thought("brings(52, 51, " + i + ")", Bounds::usual, x -> x.brings(52, 51, i), due[i]);
            }
            thought("brings(2, 1, 0)", Bounds::usual, x -> x.brings(2, 1, 0), 1);
        });
        hold("NONE: it can't.", () -> {
            // Any place can be come to, so NONE is never answered.
            for (int n = 2; n <= 52; n++) {
                int[] due = fewestShuffles(n);
                BackByTwice x = new BackByTwice();
                for (int place = 0; place < n; place++) {
                    is("brings(" + n + ", " + place + ", NONE)", x.brings(n, place, NONE), due[place]);
                    is("it can", due[place] >= 0 ? 1 : 0, 1);
                }
            }
        });
    }

    private void promise45BringsRefused() {
        hold("BAD", () -> {
            refused("brings(n, 0, NONE)", Bounds::usual, outside(2, 52),
                (x, n) -> x.brings(n, 0, NONE), BAD);
            refused("brings(52, place, NONE)", Bounds::usual, outside(0, 51),
                (x, place) -> x.brings(52, place, NONE), BAD);
            refused("brings(2, place, NONE)", Bounds::usual, outside(0, 1),
                (x, place) -> x.brings(2, place, NONE), BAD);
            refused("brings(52, 9, i)", Bounds::usual, edges(Integer.MIN_VALUE, -2),
                (x, i) -> x.brings(52, 9, i), BAD);
        });
        hold("STUCK: not so many", () -> {
            refused("brings(52, 51, i)", Bounds::usual, edges(6, Integer.MAX_VALUE),
                (x, i) -> x.brings(52, 51, i), STUCK);
            refused("brings(52, 1, 1)", Bounds::usual, x -> x.brings(52, 1, 1), STUCK);
            refused("brings(52, 0, 0)", Bounds::usual, x -> x.brings(52, 0, 0), STUCK);
        });
        hold("BAD; STUCK: not so many.", () -> {
            refused("BAD place ahead of STUCK", Bounds::usual, x -> x.brings(52, 52, 40), BAD);
            refused("BAD n ahead of STUCK", Bounds::usual, x -> x.brings(53, 0, 40), BAD);
            refused("BAD i, none at all", Bounds::usual, x -> x.brings(52, 0, -2), BAD);
        });
        hold("(NONE isn't refused.)", () ->
            thought("i NONE", Bounds::usual, x -> x.brings(3, 2, NONE), 2));
    }
}
