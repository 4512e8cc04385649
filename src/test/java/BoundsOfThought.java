import java.util.function.Supplier;

/** The boundary cases of what comes of it in thought: promises 19 to 36 and 44. */
final class BoundsOfThought extends Bounds {
    /** By END: 0 1 2 3 and again; behind n TURNS he of n modulo 4 stands first. */
    private static final Supplier<BackByTwice> ENDS = of("people 4; law 5 0; law 0 0; law 0 1");
    /** By DOUBLE 0 1 0 1 2 0 2 1 3 2 3 0 are served, and from then on 1 3 2 0 again and again. */
    private static final Supplier<BackByTwice> DOUBLES = of("people 4; law 1 0");
    private static final Supplier<BackByTwice> STAYS = of("people 4; law 0 0; law 0 2");
    private static final Supplier<BackByTwice> ALONE = of("people 1; law 0 3; law 5 0");

    BoundsOfThought(Document document) {
        super(document);
    }

    @Override
    void all() {
        in("3. WHAT COMES OF IT");
        behindAndServed();
        roundWhenNever();
        spreadAndFairest();
        promise19Stands();
        promise20Behind();
        promise21Served();
        promise22Round();
        promise23When();
        promise24Never();
        promise25Stand();
        promise26Leader();
        promise27Waits();
        promise28Several();
        promise29Beside();
        promise30Unlike();
        promise31LawFor();
        promise32Newcomer();
        promise33Forward();
        promise34Level();
        promise35Spread();
        promise36Fairest();
        promise44Tail();
    }

    /** By HALF, all LASTS 1 but those told: each pair is one of the PEOPLE and his LAST. */
    private static Supplier<BackByTwice> halves(int people, int... pairs) {
        return () -> {
            BackByTwice x = of("law 3 0; people " + people).get();
            for (int i = 0; i < pairs.length; i += 2) {
                x.tell(pairs[i], 1, pairs[i + 1]);
            }
            return x;
        };
    }

    private void lawless(String name, Call call) {
        hold("STUCK: no LAWS", () -> refused(name, Bounds::lawless, call, STUCK));
    }

    private void badAheadOfStuck(String order, String name, Supplier<BackByTwice> stuck, Call... bad) {
        hold(order, () -> {
            for (Call call : bad) {
                refused(name + ", BAD ahead of STUCK", stuck, call, BAD);
            }
        });
    }

    private void behindAndServed() {
        hold("BEHIND n TURNS (0 to 999): who stands at a PLACE, the PLACE of one, his COUNT.", () -> {
            thought("stands(0, 2)", ENDS, x -> x.stands(0, 2), 2);
            thought("stands(999, 2)", ENDS, x -> x.stands(999, 2), 1);
            thought("behind(0, 2, 0)", ENDS, x -> x.behind(0, 2, 0), 2);
            thought("behind(999, 2, 0)", ENDS, x -> x.behind(999, 2, 0), 3);
            thought("behind(0, 2, 1)", ENDS, x -> x.behind(0, 2, 1), 0);
            thought("behind(999, 2, 1)", ENDS, x -> x.behind(999, 2, 1), 250);
            thought("behind(999, 3, 1)", ENDS, x -> x.behind(999, 3, 1), 249);
            refused("stands(n, 0)", ENDS, outside(0, 999), (x, n) -> x.stands(n, 0), BAD);
            refused("behind(n, 0, 0)", ENDS, outside(0, 999), (x, n) -> x.behind(n, 0, 0), BAD);
        });
        hold("SERVED at the n-th TURN from now on (1 to 999): who.", () -> {
            thought("served(1)", Bounds::usual, x -> x.served(1), 3);
            thought("served(1)", ENDS, x -> x.served(1), 0);
            thought("served(999)", ENDS, x -> x.served(999), 2);
            refused("served(n)", ENDS, outside(1, 999), BackByTwice::served, BAD);
        });
    }

    private void roundWhenNever() {
        hold("ROUND: the least n (1 to 999) behind which all stand as they do now (whatever COUNTS and "
            + "LASTS are); NONE.", () -> {
                thought("round of one alone", ALONE, BackByTwice::round, 1);
                thought("round, the first staying", STAYS, BackByTwice::round, 1);
                thought("round of 999", halves(10, 1, 4, 2, 9), BackByTwice::round, 999);
                thought("round of 1000", halves(10, 0, 13, 2, 8, 3, 10), BackByTwice::round, NONE);
                // 0 goes behind two, 1 behind one, then behind all: 120 210 120 201 012.
                BackByTwice x = Due.shopOf("people 3; law 1 0");
                x.tell(0, 1, 2);
                is("round, LASTS no more as they were", x.round(), 5);
            });
        hold("WHEN of one: the TURN (1 to 999) at which he is served for the k-th time (1 to 99) from "
            + "now on; NONE.", () -> {
                thought("when(0, 1)", DOUBLES, x -> x.when(0, 1), 1);
                thought("when(0, 99)", DOUBLES, x -> x.when(0, 99), 12 + 4 * 95);
                Supplier<BackByTwice> twelve = of("people 12; law 5 0");
                thought("when at 999", twelve, x -> x.when(2, 84), 999);
                thought("when at 1000", twelve, x -> x.when(3, 84), NONE);
                thought("when, never", STAYS, x -> x.when(1, 1), NONE);
                refused("when(0, k)", DOUBLES, outside(1, 99), (x, k) -> x.when(0, k), BAD);
            });
        hold("NEVER: PEOPLE (bits) who aren't served in 999 TURNS.", () -> {
            thought("never, none of them", ENDS, BackByTwice::never, 0);
            thought("never, all but the first", STAYS, BackByTwice::never, 0b1110);
            thought("never, all of sixteen but the first", of("people 16; law 0 0"),
                BackByTwice::never, 0xfffe);
            thought("never of one alone", ALONE, BackByTwice::never, 0);
            // The last of sixteen by OWN is served at TURN 195 first: nobody was found to be later.
            thought("never of sixteen by OWN", of("people 16; law 2 0"), BackByTwice::never, 0);
        });
        hold("STAND: the PLACE of him who is SERVED at the n-th TURN.", () -> {
            thought("stand(1)", Bounds::usual, x -> x.stand(1), 0);
            thought("stand(5)", Bounds::usual, x -> x.stand(5), 3);
            thought("stand(999)", ENDS, x -> x.stand(999), 2);
            refused("stand(n)", ENDS, outside(1, 999), BackByTwice::stand, BAD);
        });
    }

    private void spreadAndFairest() {
        hold("with that LAW IN FORCE, all COUNTS 0 and LASTS 1 ahead of them: the greatest COUNT less "
            + "the least", () -> {
                thought("spread(1, 0)", Bounds::usual, x -> x.spread(1, 0), 0);
                // By DOUBLE from 3 4 2 0 1, LASTS 1: 3 4 3 4 2.
                thought("spread(1, 1)", Bounds::usual, x -> x.spread(1, 1), 1);
                thought("spread(1, 4)", Bounds::usual, x -> x.spread(1, 4), 2);
                thought("spread(0, 5)", Bounds::usual, x -> x.spread(0, 5), 0);
                thought("spread(0, 999)", Bounds::usual, x -> x.spread(0, 999), 1);
                thought("spread, the first staying", STAYS, x -> x.spread(0, 999), 999);
                thought("spread of one alone", ALONE, x -> x.spread(0, 999), 0);
            });
        hold("FAIREST: the LAW of the least SPREAD of n TURNS, of several the first.", () -> {
            Supplier<BackByTwice> laws = of("people 4; law 0 0; law 5 0; law 0 3; law 0 9");
            thought("fairest(0)", laws, x -> x.fairest(0), 0);
            thought("fairest(1)", laws, x -> x.fairest(1), 0);
            thought("fairest(2)", laws, x -> x.fairest(2), 1);
            thought("fairest(999)", laws, x -> x.fairest(999), 1);
            thought("fairest, the last", of("people 3; law 0 0; law 0 1; law 5 0"),
                x -> x.fairest(3), 2);
            thought("fairest of one LAW", STAYS, x -> x.fairest(2), 1);
            thought("fairest for one alone", ALONE, x -> x.fairest(7), 0);
        });
    }

    private void promise19Stands() {
        in("Promise 19");
        hold("BEHIND n TURNS: who stands at a PLACE", () -> {
            int[] behind3 = {3, 0, 1, 2};
            for (int place = 0; place < 4; place++) {
                int p = place;
                thought("stands(0, " + p + ")", ENDS, x -> x.stands(0, p), p);
                thought("stands(3, " + p + ")", ENDS, x -> x.stands(3, p), behind3[p]);
            }
            thought("stands, nothing kept", () -> Due.shopOf("people 4; law 5 0"),
                x -> x.stands(3, 0), 3);
        });
        hold("BAD", () -> {
            refused("stands(n, 0)", ENDS, outside(0, 999), (x, n) -> x.stands(n, 0), BAD);
            refused("stands(0, place)", ENDS, outside(0, 3), (x, p) -> x.stands(0, p), BAD);
            refused("stands of nobody", Bounds::nobody, x -> x.stands(0, 0), BAD);
        });
        lawless("stands", x -> x.stands(0, 0));
        badAheadOfStuck("BAD; STUCK: no LAWS.", "stands", Bounds::lawless, x -> x.stands(-1, 0),
            x -> x.stands(1000, 0), x -> x.stands(0, -1), x -> x.stands(0, 4));
    }

    private void promise20Behind() {
        in("Promise 20");
        hold("the PLACE of one (what 0), his COUNT (1), his LAST (2)", () -> {
            int[] now = {0, 7, 2};
            int[] behind4 = {4, 9, 8};
            for (int what = 0; what < 3; what++) {
                int w = what;
                thought("behind(0, 3, " + w + ")", Bounds::usual, x -> x.behind(0, 3, w), now[w]);
                thought("behind(4, 3, " + w + ")", Bounds::usual, x -> x.behind(4, 3, w), behind4[w]);
            }
            thought("behind(999, 0, 2)", DOUBLES, x -> x.behind(999, 0, 2), 99);
        });
        hold("BAD", () -> {
            refused("behind(n, 0, 0)", ENDS, outside(0, 999), (x, n) -> x.behind(n, 0, 0), BAD);
            refused("behind(0, person, 0)", ENDS, outside(0, 3), (x, p) -> x.behind(0, p, 0), BAD);
            refused("behind(0, 0, what)", ENDS, outside(0, 2), (x, what) -> x.behind(0, 0, what), BAD);
            refused("behind of nobody", Bounds::nobody, x -> x.behind(0, 0, 0), BAD);
        });
        lawless("behind", x -> x.behind(0, 0, 0));
        badAheadOfStuck("BAD; STUCK: no LAWS.", "behind", Bounds::lawless, x -> x.behind(-1, 0, 0),
            x -> x.behind(0, 4, 0), x -> x.behind(0, 0, 3));
    }

    private void promise21Served() {
        in("Promise 21");
        hold("SERVED at the n-th TURN.", () -> {
            int[] due = {0, 1, 0, 1, 2, 0, 2, 1, 3, 2, 3, 0, 1, 3, 2, 0};
            for (int n = 1; n <= due.length; n++) {
                is("served(" + n + ")", DOUBLES.get().served(n), due[n - 1]);
            }
            is("served(999)", DOUBLES.get().served(999), 2);
        });
        hold("BAD", () -> refused("served(n)", ENDS, outside(1, 999), BackByTwice::served, BAD));
        nobodyOrLawless("served", x -> x.served(1));
        badAheadOfStuck("BAD; STUCK: nobody, no LAWS.", "served", Bounds::nothing, x -> x.served(0),
            x -> x.served(1000));
    }

    private void promise22Round() {
        in("Promise 22");
        hold("ROUND; NONE.", () -> {
            thought("round", DOUBLES, BackByTwice::round, 2);
            thought("round of all", of("people 16; law 5 0"), BackByTwice::round, 16);
            // By OWN 120, 210, 102, 021 and, all going to the end from then on, 210 again.
            thought("round, none", of("people 3; law 2 0; count 0 1; count 2 5"),
                BackByTwice::round, NONE);
        });
        nobodyOrLawless("round", BackByTwice::round);
    }

    private void promise23When() {
        in("Promise 23");
        hold("WHEN; NONE.", () -> {
            thought("when(3, 1)", DOUBLES, x -> x.when(3, 1), 9);
            thought("when(3, 2)", DOUBLES, x -> x.when(3, 2), 11);
            thought("when, never", STAYS, x -> x.when(3, 1), NONE);
            thought("when, staying", STAYS, x -> x.when(0, 99), 99);
        });
        hold("BAD", () -> {
            refused("when(person, 1)", ENDS, outside(0, 3), (x, p) -> x.when(p, 1), BAD);
            refused("when(0, k)", ENDS, outside(1, 99), (x, k) -> x.when(0, k), BAD);
            refused("when of nobody", Bounds::nobody, x -> x.when(0, 1), BAD);
        });
        lawless("when", x -> x.when(0, 1));
        badAheadOfStuck("BAD; STUCK: no LAWS.", "when", Bounds::lawless, x -> x.when(4, 1),
            x -> x.when(0, 0), x -> x.when(0, 100));
        hold("(NONE isn't refused.)", () ->
            thought("when, NONE", STAYS, x -> x.when(1, 99), NONE));
    }

    private void promise24Never() {
        in("Promise 24");
        hold("NEVER.", () -> {
            thought("never", STAYS, BackByTwice::never, 0b1110);
            thought("never but three", () -> {
                BackByTwice x = STAYS.get();
                x.use(1);
                return x;
            }, BackByTwice::never, 0b1000);
            thought("never, none", Bounds::usual, BackByTwice::never, 0);
        });
        nobodyOrLawless("never", BackByTwice::never);
    }

    private void promise25Stand() {
        in("Promise 25");
        hold("STAND.", () -> {
            // The row is 3 4 2 0 1: served are 3 4 2 3 0.
            int[] due = {0, 1, 2, 0, 3};
            for (int n = 1; n <= due.length; n++) {
                is("stand(" + n + ")", usual().stand(n), due[n - 1]);
            }
        });
        hold("BAD", () -> refused("stand(n)", ENDS, outside(1, 999), BackByTwice::stand, BAD));
        nobodyOrLawless("stand", x -> x.stand(1));
        badAheadOfStuck("BAD; STUCK: nobody, no LAWS.", "stand", Bounds::nothing, x -> x.stand(0),
            x -> x.stand(1000));
    }

    private void promise26Leader() {
        in("Promise 26");
        hold("Whose COUNT would be greatest behind n TURNS (0 to 999)", () -> {
            thought("leader(0)", STAYS, x -> x.leader(0), 0);
            thought("leader(1)", Bounds::usual, x -> x.leader(1), 3);
            // 0 is served at 1, 5, .. 997, 1 at 998, 2 at 999: 250 times each, 3 once less.
            thought("leader(999)", ENDS, x -> x.leader(999), 0);
            refused("leader(n)", ENDS, outside(0, 999), BackByTwice::leader, BAD);
        });
        hold("all COUNTS 0 and LASTS 1 ahead of them, of several the first", () -> {
            // The row is 3 4 2 0 1: 3 4 3 4 are served by DOUBLE, whatever COUNTS and LASTS are.
            thought("leader(0), all alike", Bounds::usual, x -> x.leader(0), 0);
            thought("leader(2), two alike", Bounds::usual, x -> x.leader(2), 3);
            thought("leader(3)", Bounds::usual, x -> x.leader(3), 3);
            thought("leader(4), two alike", Bounds::usual, x -> x.leader(4), 3);
            thought("leader, the second", of("people 3; law 0 0; let 0"), x -> x.leader(5), 1);
        });
        hold("BAD", () -> refused("leader(n)", ENDS, outside(0, 999), BackByTwice::leader, BAD));
        nobodyOrLawless("leader", x -> x.leader(0));
        badAheadOfStuck("BAD; STUCK: nobody, no LAWS.", "leader", Bounds::nothing, x -> x.leader(-1),
            x -> x.leader(1000));
    }

    private void promise27Waits() {
        in("Promise 27");
        hold("The most TURNS from one serving of one of the PEOPLE to the next (to the first: from now "
            + "on) within 999 TURNS; NONE: he isn't served.", () -> {
                thought("waits, between", DOUBLES, x -> x.waits(0), 6);
                thought("waits, to the first", DOUBLES, x -> x.waits(3), 9);
                thought("waits, staying", STAYS, x -> x.waits(0), 1);
                thought("waits, not served", STAYS, x -> x.waits(1), NONE);
                // Found by search: a wait that ends at 999, and one that would end at 1000.
                thought("waits, to 999", halves(15, 5, 18, 13, 11), x -> x.waits(7), 55);
                Supplier<BackByTwice> thousand = halves(11, 3, 8, 9, 14);
                thought("waits, to 1000", thousand, x -> x.waits(4), longestWait(thousand.get(), 4));
            });
        hold("BAD", () -> {
            refused("waits(person)", ENDS, outside(0, 3), BackByTwice::waits, BAD);
            refused("waits of nobody", Bounds::nobody, x -> x.waits(0), BAD);
        });
        lawless("waits", x -> x.waits(3));
        badAheadOfStuck("BAD; STUCK: no LAWS.", "waits", Bounds::lawless, x -> x.waits(-1),
            x -> x.waits(4));
        hold("(NONE isn't refused.)", () ->
            thought("waits, NONE", STAYS, x -> x.waits(3), NONE));
    }

    private static int longestWait(BackByTwice x, int person) {
        int most = 0;
        int last = 0;
        for (int k = 1; k <= 99; k++) {
            int turn = x.when(person, k);
            most = turn == NONE ? most : Math.max(most, turn - last);
            last = turn == NONE ? last : turn;
        }
        return most;
    }

    private void promise28Several() {
        in("Promise 28");
        hold("within n TURNS (0 to 999)", () -> {
            thought("several(0)", ENDS, x -> x.several(0), 0);
            thought("several(1)", ENDS, x -> x.several(1), 1);
            thought("several(3)", ENDS, x -> x.several(3), 3);
            thought("several(4)", ENDS, x -> x.several(4), 4);
            thought("several(999)", ENDS, x -> x.several(999), 4);
            thought("several, staying", STAYS, x -> x.several(999), 1);
            thought("several of sixteen", of("people 16; law 5 0"), x -> x.several(16), 16);
        });
        hold("BAD", () -> refused("several(n)", ENDS, outside(0, 999), BackByTwice::several, BAD));
        nobodyOrLawless("several", x -> x.several(0));
        badAheadOfStuck("BAD; STUCK: nobody, no LAWS.", "several", Bounds::nothing,
            x -> x.several(-1), x -> x.several(1000));
    }

    private void promise29Beside() {
        in("Promise 29");
        hold("Behind how few TURNS (0 to 999) two stand one beside the other; NONE.", () -> {
            thought("beside, now", ENDS, x -> x.beside(2, 3), 0);
            thought("beside, now", ENDS, x -> x.beside(3, 2), 0);
            thought("beside, behind one", ENDS, x -> x.beside(0, 3), 1);
            thought("beside at 999", halves(15, 7, 11, 9, 11, 12, 6), x -> x.beside(6, 14), 999);
            thought("beside at 1000", halves(16, 7, 12, 11, 8, 12, 16), x -> x.beside(7, 15), NONE);
            thought("beside, never", STAYS, x -> x.beside(0, 2), NONE);
        });
        hold("BAD: also the same", () -> {
            refused("beside(person, 0)", ENDS, outside(0, 3), (x, p) -> x.beside(p, 0), BAD);
            refused("beside(0, other)", ENDS, outside(0, 3), (x, p) -> x.beside(0, p), BAD);
            refused("beside the same", ENDS, edges(0, 3), (x, p) -> x.beside(p, p), BAD);
            refused("beside of nobody", Bounds::nobody, x -> x.beside(0, 1), BAD);
        });
        lawless("beside", x -> x.beside(0, 1));
        badAheadOfStuck("BAD: also the same; STUCK: no LAWS.", "beside", Bounds::lawless,
            x -> x.beside(1, 1), x -> x.beside(0, 4), x -> x.beside(-1, 0));
        hold("(NONE isn't refused.)", () ->
            thought("beside, NONE", STAYS, x -> x.beside(3, 1), NONE));
    }

    private void promise30Unlike() {
        in("Promise 30");
        hold("The first TURN (1 to 999) at which another is SERVED by one LAW than by the other, from "
            + "now on; NONE.", () -> {
                // At the first TURN he at PLACE 0 is served by each LAW.
                thought("unlike(0, 1)", ENDS, x -> x.unlike(0, 1), 2);
                thought("unlike(0, 2)", ENDS, x -> x.unlike(0, 2), 3);
                thought("unlike, two such LAWS", of("people 4; law 5 0; law 0 3"),
                    x -> x.unlike(0, 1), NONE);
                thought("unlike, one alone", ALONE, x -> x.unlike(0, 1), NONE);
                // Found by search: none were found that differ later.
                thought("unlike, HALF and DOUBLE", () -> {
                    BackByTwice x = of("people 16; law 3 0; law 1 0").get();
                    x.tell(7, 1, 6);
                    return x;
                }, x -> x.unlike(0, 1), 79);
                // LASTS as they are: by DOUBLE 3 goes behind 2, as by LAW 2, but 4 behind all then.
                thought("unlike from now on", Bounds::usual, x -> x.unlike(1, 2), 5);
            });
        hold("BAD", () -> {
            refused("unlike(law, 0)", ENDS, outside(0, 2), (x, law) -> x.unlike(law, 0), BAD);
            refused("unlike(0, other)", ENDS, outside(0, 2), (x, law) -> x.unlike(0, law), BAD);
            refused("unlike without LAWS", Bounds::lawless, x -> x.unlike(0, 0), BAD);
        });
        hold("STUCK: nobody", () ->
            refused("unlike of nobody", Bounds::nobody, x -> x.unlike(0, 1), STUCK));
        badAheadOfStuck("BAD; STUCK: nobody.", "unlike", Bounds::nobody, x -> x.unlike(0, 2),
            x -> x.unlike(-1, 0));
        hold("(NONE isn't refused.)", () ->
            thought("unlike the same, NONE", ENDS, x -> x.unlike(1, 1), NONE));
    }

    private void promise31LawFor() {
        in("Promise 31");
        hold("The LAW by which the COUNT of one is greatest behind n TURNS (0 to 999) from now on", () -> {
            thought("lawFor(0, 0)", ENDS, x -> x.lawFor(0, 0), 0);
            thought("lawFor(0, 2)", ENDS, x -> x.lawFor(0, 2), 1);
            thought("lawFor(1, 4)", ENDS, x -> x.lawFor(1, 4), 2);
            thought("lawFor(0, 999)", ENDS, x -> x.lawFor(0, 999), 1);
            thought("lawFor(1, 999)", ENDS, x -> x.lawFor(1, 999), 2);
            thought("lawFor(3, 999)", ENDS, x -> x.lawFor(3, 999), 0);
        });
        hold("of several the first", () -> {
            thought("lawFor(3, 3)", ENDS, x -> x.lawFor(3, 3), 0);
            thought("lawFor(1, 2)", ENDS, x -> x.lawFor(1, 2), 0);
            thought("lawFor, all alike", of("people 2; law 0 0; law 5 0; law 5 1; law 0 1"),
                x -> x.lawFor(1, 9), 1);
        });
        hold("BAD", () -> {
            refused("lawFor(person, 0)", ENDS, outside(0, 3), (x, p) -> x.lawFor(p, 0), BAD);
            refused("lawFor(0, n)", ENDS, outside(0, 999), (x, n) -> x.lawFor(0, n), BAD);
            refused("lawFor of nobody", Bounds::nobody, x -> x.lawFor(0, 0), BAD);
        });
        lawless("lawFor", x -> x.lawFor(0, 0));
        badAheadOfStuck("BAD; STUCK: no LAWS.", "lawFor", Bounds::lawless, x -> x.lawFor(4, 0),
            x -> x.lawFor(0, 1000), x -> x.lawFor(0, -1));
    }

    private void promise32Newcomer() {
        in("Promise 32");
        hold("At which TURN (1 to 999) one more, coming now, would be served first; NONE.", () -> {
            thought("newcomer, the first of all", Bounds::nobody, BackByTwice::newcomer, 1);
            thought("newcomer by END", ENDS, BackByTwice::newcomer, 5);
            thought("newcomer by DOUBLE", of("people 3; law 1 0"), BackByTwice::newcomer, 9);
            thought("newcomer by OWN", of("people 15; law 2 0"), BackByTwice::newcomer, 195);
            thought("newcomer, never", STAYS, BackByTwice::newcomer, NONE);
            thought("newcomer, the last there's room for", of("people 15; law 5 0"),
                BackByTwice::newcomer, 16);
        });
        hold("STUCK: no LAWS", () -> {
            refused("newcomer without LAWS", Bounds::lawless, BackByTwice::newcomer, STUCK);
            refused("newcomer to nothing", Bounds::nothing, BackByTwice::newcomer, STUCK);
        });
        hold("FULL: there's no room for one", () ->
            refused("newcomer, no room", Bounds::full, BackByTwice::newcomer, FULL));
        hold("STUCK: no LAWS; FULL: there's no room for one.", () ->
            refused("newcomer, STUCK ahead of FULL", of("people 16"), BackByTwice::newcomer, STUCK));
        hold("(NONE isn't refused.)", () ->
            thought("newcomer, NONE", of("people 15; law 0 14"), BackByTwice::newcomer, NONE));
    }

    private void promise33Forward() {
        in("Promise 33");
        hold("so that he is served the k-th time (1 to 99) within n TURNS (0 to 999); NONE.", () -> {
            thought("forward(3, 1, 4)", ENDS, x -> x.forward(3, 1, 4), 0);
            thought("forward(3, 1, 3)", ENDS, x -> x.forward(3, 1, 3), 1);
            thought("forward(3, 1, 1)", ENDS, x -> x.forward(3, 1, 1), 3);
            thought("forward(3, 1, 0)", ENDS, x -> x.forward(3, 1, 0), NONE);
            thought("forward(0, 1, 1)", ENDS, x -> x.forward(0, 1, 1), 0);
            thought("forward(3, 99, 396)", ENDS, x -> x.forward(3, 99, 396), 0);
            thought("forward(3, 99, 393)", ENDS, x -> x.forward(3, 99, 393), 3);
            thought("forward(3, 99, 392)", ENDS, x -> x.forward(3, 99, 392), NONE);
            Supplier<BackByTwice> twelve = of("people 12; law 5 0");
            thought("forward to 999", twelve, x -> x.forward(3, 84, 999), 1);
            thought("forward at 999", twelve, x -> x.forward(2, 84, 999), 0);
        });
        hold("(those he passes come behind him)", () -> {
            // By LAW 2 from 0 1 2 3 the last is never served; a PLACE ahead: 0 1 3 2.
            thought("forward into three", () -> {
                BackByTwice x = STAYS.get();
                x.use(1);
                return x;
            }, x -> x.forward(3, 1, 3), 1);
            // By DOUBLE the row 3 0 1 2 (not 3 1 2 0) serves 3 0 3 0 1 3.
            thought("forward to PLACE 0", DOUBLES, x -> x.forward(3, 2, 3), 3);
            thought("forward to PLACE 1", DOUBLES, x -> x.forward(3, 2, 4), 2);
        });
        hold("BAD", () -> {
            refused("forward(person, 1, 0)", ENDS, outside(0, 3), (x, p) -> x.forward(p, 1, 0), BAD);
            refused("forward(0, k, 0)", ENDS, outside(1, 99), (x, k) -> x.forward(0, k, 0), BAD);
            refused("forward(0, 1, n)", ENDS, outside(0, 999), (x, n) -> x.forward(0, 1, n), BAD);
            refused("forward of nobody", Bounds::nobody, x -> x.forward(0, 1, 0), BAD);
        });
        lawless("forward", x -> x.forward(0, 1, 0));
        badAheadOfStuck("BAD; STUCK: no LAWS.", "forward", Bounds::lawless, x -> x.forward(4, 1, 0),
            x -> x.forward(0, 0, 0), x -> x.forward(0, 1, 1000));
        hold("(NONE isn't refused.)", () ->
            thought("forward, NONE", ENDS, x -> x.forward(1, 2, 4), NONE));
    }

    private void promise34Level() {
        in("Promise 34");
        hold("The least n (1 to 999) for which SPREAD by a LAW of n TURNS is 0; NONE.", () -> {
            thought("level of one alone", ALONE, x -> x.level(0), 1);
            thought("level by END", ENDS, x -> x.level(0), 4);
            thought("level, never", STAYS, x -> x.level(0), NONE);
            // The latest that any LAW and number of PEOPLE come to, and one later than 999: at 1980.
            thought("level of ten by HALF", of("people 10; law 3 0"), x -> x.level(0), 900);
            thought("level of eleven by HALF", of("people 11; law 3 0"), x -> x.level(0), NONE);
            thought("level, whatever COUNTS and LASTS are", Bounds::usual, x -> x.level(0), 5);
        });
        hold("BAD", () -> {
            refused("level(law)", ENDS, outside(0, 2), BackByTwice::level, BAD);
            refused("level without LAWS", Bounds::lawless, x -> x.level(0), BAD);
        });
        hold("STUCK: nobody", () ->
            refused("level of nobody", Bounds::nobody, x -> x.level(1), STUCK));
        badAheadOfStuck("BAD; STUCK: nobody.", "level", Bounds::nobody, x -> x.level(2),
            x -> x.level(-1));
        hold("(NONE isn't refused.)", () ->
            thought("level, NONE", ENDS, x -> x.level(1), NONE));
    }

    private void promise35Spread() {
        in("Promise 35");
        hold("SPREAD by a LAW of n TURNS (0 to 999)", () -> {
            thought("spread(0, 0)", ENDS, x -> x.spread(0, 0), 0);
            thought("spread(0, 999)", ENDS, x -> x.spread(0, 999), 1);
            thought("spread(1, 1)", ENDS, x -> x.spread(1, 1), 1);
            thought("spread(1, 999)", ENDS, x -> x.spread(1, 999), 999);
            thought("spread(2, 999)", ENDS, x -> x.spread(2, 999), 500);
        });
        hold("BAD", () -> {
            refused("spread(law, 0)", ENDS, outside(0, 2), (x, law) -> x.spread(law, 0), BAD);
            refused("spread(0, n)", ENDS, outside(0, 999), (x, n) -> x.spread(0, n), BAD);
            refused("spread without LAWS", Bounds::lawless, x -> x.spread(0, 0), BAD);
        });
        hold("STUCK: nobody", () ->
            refused("spread of nobody", Bounds::nobody, x -> x.spread(1, 0), STUCK));
        badAheadOfStuck("BAD; STUCK: nobody.", "spread", Bounds::nobody, x -> x.spread(2, 0),
            x -> x.spread(0, 1000), x -> x.spread(0, -1));
    }

    private void promise36Fairest() {
        in("Promise 36");
        hold("FAIREST for n TURNS (0 to 999)", () -> {
            Supplier<BackByTwice> laws = of("people 4; law 0 0; law 0 1; law 5 0");
            thought("fairest(0)", laws, x -> x.fairest(0), 0);
            thought("fairest(1)", laws, x -> x.fairest(1), 0);
            thought("fairest(2)", laws, x -> x.fairest(2), 1);
            thought("fairest(3)", laws, x -> x.fairest(3), 2);
            thought("fairest(999)", laws, x -> x.fairest(999), 2);
        });
        hold("BAD", () -> refused("fairest(n)", ENDS, outside(0, 999), BackByTwice::fairest, BAD));
        nobodyOrLawless("fairest", x -> x.fairest(0));
        badAheadOfStuck("BAD; STUCK: nobody, no LAWS.", "fairest", Bounds::nothing,
            x -> x.fairest(-1), x -> x.fairest(1000));
    }

    private void promise44Tail() {
        in("Promise 44");
        hold("Who stands last behind n TURNS (0 to 999)", () -> {
            thought("tail(0)", ENDS, x -> x.tail(0), 3);
            thought("tail(1)", ENDS, x -> x.tail(1), 0);
            thought("tail(999)", ENDS, x -> x.tail(999), 2);
            thought("tail of one alone", ALONE, x -> x.tail(999), 0);
            thought("tail of sixteen", of("people 16; law 5 0"), x -> x.tail(0), 15);
        });
        hold("BAD", () -> refused("tail(n)", ENDS, outside(0, 999), BackByTwice::tail, BAD));
        nobodyOrLawless("tail", x -> x.tail(0));
        badAheadOfStuck("BAD; STUCK: nobody, no LAWS.", "tail", Bounds::nothing, x -> x.tail(-1),
            x -> x.tail(1000));
    }
}
