import java.util.function.Supplier;

/** The boundary cases of what there is now, of what is done in truth and kept: promises 48 to 60. */
final class BoundsOfTruth extends Bounds {
    private static final Supplier<BackByTwice> TWO = of("people 2; law 5 0");

    BoundsOfTruth(Document document) {
        super(document);
    }

    @Override
    void all() {
        in("3. WHAT COMES OF IT");
        draws();
        day();
        promise48Unserved();
        promise49Longest();
        promise50Ranked();
        promise51Serve();
        promise52Lets();
        promise53Moves();
        promise54Leaves();
        promise55Day();
        promise56Anew();
        promise57Seed();
        promise58Image();
        promise59Back();
        promise60Status();
        promise60Refusals();
    }

    /** The next SEED, in longs that don't wrap. */
    private static long next(long seed) {
        return Math.floorMod(Math.floorMod(seed, 1L << 32) * 1103515245L + 12345, 1L << 32);
    }

    private static int drawOf(long seed, int n) {
        return (int) (seed / 65536 % n);
    }

    private void draws() {
        hold("A DRAW below n: SEED (1 at first) becomes SEED times 1103515245, and 12345 (an int, "
            + "wrapping); its upper 16 bits, no sign, modulo n.", () -> {
                is("SEED at first", new BackByTwice().status(7), 1);
                int[] seeds = {1, 0, -1, 2, Integer.MAX_VALUE, Integer.MIN_VALUE, 98765, 7, 11, 23, 31};
                for (int seed : seeds) {
                    dayByDraws(of("people 1; law 5 0"), seed, 1);
                    dayByDraws(TWO, seed, 30);
                    dayByDraws(of("people 7; law 0 4"), seed, 60);
                }
            });
    }

    /** A DAY of x, told again on its twin by draws in longs, lettings and TURNS one by one. */
    private void dayByDraws(Supplier<BackByTwice> shop, int seed, int n) {
        BackByTwice x = shop.get();
        BackByTwice twin = shop.get();
        x.seed(seed);
        long drawn = seed;
        int lettings = 0;
        int people = twin.status(0);
        for (int turn = 0; turn < n; turn++) {
            drawn = next(drawn);
            if (drawOf(drawn, 5) == 0 && people >= 2) {
                drawn = next(drawn);
                twin.lets(drawOf(drawn, people - 1));
                lettings++;
            }
            twin.serve(1);
        }
        twin.seed((int) drawn);
        String call = "day(" + n + ") of " + people + ", SEED " + seed;
        is(call, x.day(n), lettings);
        alike(call, x, twin, 0);
    }

    private void day() {
        hold("ahead of each a DRAW below 5: if it is 0 a DRAW below how many stand behind PLACE 0: he at "
            + "that PLACE lets the one behind go before (if there are two); how many did.", () -> {
                for (int people : new int[] {1, 2, 3, 16}) {
                    // Of sixteen fewer TURNS, since no object may be asked more than 512 times.
                    dayByDraws(of("people " + people + "; law 1 0"), 1, people > 3 ? 30 : 99);
                    dayByDraws(of("people " + people + "; law 0 0"), 12345, 30);
                }
                BackByTwice alone = Due.shopOf("people 1; law 5 0");
                is("day of one alone", alone.day(99), 0);
                long drawn = 1;
                for (int turn = 0; turn < 99; turn++) {
                    drawn = next(drawn);
                }
                is("SEED behind 99 DRAWS", alone.status(7), (int) drawn);
            });
    }

    private void promise48Unserved() {
        in("Promise 48:");
        hold("PEOPLE (bits) whose COUNT is 0.", () -> {
            thought("unserved of nobody", Bounds::nothing, BackByTwice::unserved, 0);
            thought("unserved", Bounds::usual, BackByTwice::unserved, 0b10000);
            thought("unserved of sixteen", Bounds::full, BackByTwice::unserved, 0xffff);
            thought("unserved, none", of("people 1; law 0 0; serve 1"), BackByTwice::unserved, 0);
            thought("unserved, one left", of("people 3; leave 2"), BackByTwice::unserved, 0b11);
        });
    }

    private void promise49Longest() {
        in("Promise 49:");
        hold("Whose LAST is greatest, of several the first.", () -> {
            thought("longest", Bounds::usual, BackByTwice::longest, 4);
            thought("longest, all alike", Bounds::full, BackByTwice::longest, 0);
            thought("longest without LAWS", Bounds::lawless, BackByTwice::longest, 0);
            thought("longest, the second", () -> {
                BackByTwice x = usual();
                x.tell(1, 1, 99);
                return x;
            }, BackByTwice::longest, 1);
            thought("longest, two alike", () -> {
                BackByTwice x = usual();
                x.tell(2, 1, 6);
                return x;
            }, BackByTwice::longest, 2);
            thought("longest, not who left", of("people 2; law 1 0; serve 2; leave 1"),
                BackByTwice::longest, 0);
        });
        hold("STUCK: nobody", () -> {
            refused("longest of nobody", Bounds::nobody, BackByTwice::longest, STUCK);
            refused("longest of nothing", Bounds::nothing, BackByTwice::longest, STUCK);
        });
    }

    private void promise50Ranked() {
        in("Promise 50:");
        hold("PEOPLE by COUNTS, the greatest first, of several the first by number: the i-th.", () -> {
            int[] due = {3, 2, 0, 1, 4};
            for (int one = 0; one < due.length; one++) {
                int i = one;
                thought("ranked(" + i + ")", Bounds::usual, x -> x.ranked(i), due[i]);
            }
            thought("ranked(15)", Bounds::full, x -> x.ranked(15), 15);
        });
        hold("BAD", () -> {
            refused("ranked(i)", Bounds::usual, outside(0, 4), BackByTwice::ranked, BAD);
            refused("ranked of nobody", Bounds::nobody, x -> x.ranked(0), BAD);
        });
    }

    private void promise51Serve() {
        in("Promise 51:");
        hold("n TURNS (1 to 99) in truth: who is first then.", () -> {
            BackByTwice x = done("serve(1)", Bounds::usual, y -> y.serve(1), 4);
            is("the row", Due.digits(x), 942301);
            is("TURNS", x.status(3), 6);
            BackByTwice z = done("serve(99)", of("people 4; law 5 0"), y -> y.serve(99), 3);
            is("TURNS", z.status(3), 99);
            is("COUNT", z.personOf(3, 1), 24);
        });
        hold("BAD", () -> refused("serve(n)", Bounds::usual, outside(1, 99), BackByTwice::serve, BAD));
        nobodyOrLawless("serve", x -> x.serve(1));
        hold("BAD; STUCK: nobody, no LAWS.", () -> refused("BAD ahead of STUCK", Bounds::nothing,
            outside(1, 99), BackByTwice::serve, BAD));
    }

    private void promise52Lets() {
        in("Promise 52:");
        hold("He at a PLACE lets the one behind go before: who that is.", () -> {
            is("the row", Due.digits(done("lets(0)", Bounds::usual, x -> x.lets(0), 4)), 943201);
            is("the row", Due.digits(done("lets(3)", Bounds::usual, x -> x.lets(3), 1)), 934210);
        });
        hold("BAD", () -> {
            refused("lets(place)", Bounds::usual, outside(0, 4), BackByTwice::lets, BAD);
            refused("lets(16)", Bounds::full, x -> x.lets(16), BAD);
            refused("lets of nobody", Bounds::nobody, x -> x.lets(0), BAD);
        });
        hold("STUCK: nobody is behind", () -> {
            refused("lets(4)", Bounds::usual, x -> x.lets(4), STUCK);
            refused("lets(15)", Bounds::full, x -> x.lets(15), STUCK);
            refused("lets of one alone", of("people 1"), x -> x.lets(0), STUCK);
        });
    }

    private void promise53Moves() {
        in("Promise 53:");
        hold("One of the PEOPLE goes to a PLACE in truth (those between come nearer to where he was): "
            + "where he was.", () -> {
                is("the row", Due.digits(done("to the end", Bounds::usual, x -> x.moves(3, 4), 0)), 942013);
                is("the row", Due.digits(done("to the first", Bounds::usual, x -> x.moves(1, 0), 4)),
                    913420);
                is("the row", Due.digits(done("ahead", Bounds::usual, x -> x.moves(0, 1), 3)), 930421);
                is("the row", Due.digits(done("nowhere", Bounds::usual, x -> x.moves(2, 2), 2)), 934201);
            });
        hold("BAD", () -> {
            refused("moves(person, 0)", Bounds::usual, outside(0, 4), (x, p) -> x.moves(p, 0), BAD);
            refused("moves(0, place)", Bounds::usual, outside(0, 4), (x, p) -> x.moves(0, p), BAD);
            refused("moves of nobody", Bounds::nobody, x -> x.moves(0, 0), BAD);
        });
    }

    private void promise54Leaves() {
        in("Promise 54:");
        hold("The last by number leaves: how many are left.", () -> {
            BackByTwice x = done("leaves", Bounds::usual, BackByTwice::leaves, 4);
            is("the row", Due.digits(x), 93201);
            is("COUNT of who left", x.personOf(4, 1), BAD);
            done("leaves, the last of all", of("people 1"), BackByTwice::leaves, 0);
            done("leaves, one of sixteen", Bounds::full, BackByTwice::leaves, 15);
        });
        hold("STUCK: nobody", () -> {
            refused("leaves of nobody", Bounds::nobody, BackByTwice::leaves, STUCK);
            refused("leaves behind the last", of("people 1; leave 0"), BackByTwice::leaves, STUCK);
        });
    }

    private void promise55Day() {
        in("Promise 55:");
        hold("A DAY of n TURNS (1 to 99): how many let one go before.", () -> {
            dayByDraws(TWO, 1, 1);
            dayByDraws(TWO, 1, 99);
            dayByDraws(of("people 5; law 3 0"), 3, 99);
            refused("day(n)", Bounds::usual, outside(1, 99), BackByTwice::day, BAD);
        });
        hold("BAD", () -> refused("day(n)", TWO, outside(1, 99), BackByTwice::day, BAD));
        nobodyOrLawless("day", x -> x.day(1));
        hold("BAD; STUCK: nobody, no LAWS.", () -> refused("BAD ahead of STUCK", Bounds::nothing,
            outside(1, 99), BackByTwice::day, BAD));
    }

    private void promise56Anew() {
        in("Promise 56:");
        hold("All COUNTS 0, all LASTS 1, TURNS 0: TURNS ahead.", () -> {
            BackByTwice x = done("anew", Bounds::usual, BackByTwice::anew, 5);
            is("TURNS", x.status(3), 0);
            is("all COUNTS", x.status(4), 0);
            is("unserved", x.unserved(), 0b11111);
            is("the greatest LAST", x.status(5), 1);
            is("the row", Due.digits(x), 934201);
            is("SEED", x.status(7), 99);
            is("anew again", x.anew(), 0);
            done("anew of nobody", Bounds::nothing, BackByTwice::anew, 0);
            is("COUNT of one who comes", comesBehindAnew().personOf(0, 1), 0);
        });
    }

    private static BackByTwice comesBehindAnew() {
        BackByTwice x = new BackByTwice();
        x.anew();
        x.comes();
        return x;
    }

    private void promise57Seed() {
        in("Promise 57:");
        hold("SEED becomes v: the one ahead.", () -> {
            done("seed, at first", Bounds::nothing, x -> x.seed(5), 1);
            for (int v : new int[] {0, -1, Integer.MIN_VALUE, Integer.MAX_VALUE}) {
                BackByTwice x = done("seed(" + v + ")", Bounds::usual, y -> y.seed(v), 99);
                is("SEED", x.status(7), v);
                is("seed again", x.seed(4), v);
            }
        });
    }

    private void promise58Image() {
        in("Promise 58:");
        hold("All is kept, but THE TAPE, SHELVES and REFUSALS: 1.", () -> {
            BackByTwice x = done("image", Bounds::usual, BackByTwice::image, 1);
            x.serve(9);
            x.comes();
            x.law(5, 9);
            x.use(0);
            x.anew();
            x.seed(3);
            x.set(0, 0, 55);
            x.show(6, NONE);
            x.feed(';');
            x.at(9);
            is("back", x.back(), 1);
            is("the row", Due.digits(x), 934201);
            int[] status = {5, 3, 1, 5, 11, 6, 6, 99, 6};
            for (int what = 0; what < status.length; what++) {
                is("status(" + what + ")", x.status(what), status[what]);
            }
            is("element", x.element(0, 0), 55);
            is("BAD", x.status(12), 2);
            done("image of nobody", Bounds::nothing, BackByTwice::image, 1);
        });
    }

    private void promise59Back() {
        in("Promise 59:");
        hold("All is again as it was kept", () -> {
            BackByTwice x = done("back", Bounds::usual, BackByTwice::back, 1);
            is("the row", Due.digits(x), 901234);
            int[] status = {5, 2, 0, 0, 0, 1, 5, 98, 7};
            for (int what = 0; what < status.length; what++) {
                is("status(" + what + ")", x.status(what), status[what]);
            }
            is("in force, LAW END", x.serve(1), 1);
            is("shop", x.shop(), 1);
            x.leaves();
            is("back again", x.back(), 1);
            is("the row again", Due.digits(x), 901234);
        });
        hold("(SHELVES with LAWS hold those of the same numbers, or NOTHING)", () -> {
            BackByTwice x = usual();
            x.show(5, 2);
            x.show(7, 0);
            x.show(1, 2);
            x.show(0, 2);
            is("back", x.back(), 1);
            is("the last LAW kept", x.holds(6), 11);
            is("the first LAW kept", x.holds(7), 10);
            is("a LAW that isn't there", x.holds(5), NONE);
            is("a LAW that isn't there", x.holds(1), NONE);
            is("a LAW that isn't there", x.holds(0), NONE);
            is("a ROW", x.holds(4), 4);
            x.law(3, 3);
            is("what held it, behind another LAW", x.holds(5), NONE);
        });
        hold("STUCK: nothing was", () -> {
            refused("back", Bounds::nothing, BackByTwice::back, STUCK);
            refused("back", Bounds::lawless, BackByTwice::back, STUCK);
        });
    }

    private void promise60Status() {
        in("Promise 60:");
        hold("PEOPLE (0), LAWS (1), which is IN FORCE (2), TURNS (3), all COUNTS together (4), the "
            + "greatest LAST (5; 0: nobody), THE TAPE's size (6), SEED (7), SHELVES that hold something "
            + "(8)", () -> {
                int[] due = {5, 3, 1, 5, 11, 6, 5, 99, 7};
                for (int what = 0; what < due.length; what++) {
                    int w = what;
                    thought("status(" + w + ")", Bounds::usual, x -> x.status(w), due[w]);
                    thought("status(" + w + ") of nobody", Bounds::nothing, x -> x.status(w),
                        w == 7 ? 1 : 0);
                }
                BackByTwice x = Due.shopOf("people 1; law 2 0; count 0 999; leave 0");
                is("all COUNTS of nobody", x.status(4), 0);
                is("the greatest LAST of nobody", x.status(5), 0);
                is("the greatest LAST without LAWS", lawless().status(5), 1);
            });
        hold("NONE another what.", () -> {
            int[] others = {-1, 9, 10, 11, 17, 18, Integer.MIN_VALUE, Integer.MAX_VALUE};
            thought("status", Bounds::usual, others, BackByTwice::status, NONE);
        });
    }

    private void promise60Refusals() {
        hold("12 to 16: REFUSALS -2 to -6", () -> {
            BackByTwice x = full();
            x.show(6, 1);
            for (int i = 0; i < 5; i++) {
                x.at(16);
            }
            for (int i = 0; i < 4; i++) {
                x.set(6, 0, 1);
            }
            for (int i = 0; i < 3; i++) {
                x.set(5, 0, 1);
            }
            for (int i = 0; i < 2; i++) {
                x.back();
            }
            x.comes();
            BackByTwice ahead = full();
            for (int what = 12; what <= 16; what++) {
                is("status(" + what + ")", x.status(what), ahead.status(what) + 17 - what);
                is("status(" + what + ") of a new one", new BackByTwice().status(what), 0);
            }
        });
    }
}
