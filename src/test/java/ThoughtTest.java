/** Promises 19 to 36 and 44: what comes of it, in thought. */
public final class ThoughtTest {
    private static final Due DUE = new Due("ThoughtTest");

    /*
     * Four by DOUBLE. TURNS 1 to 12 serve 0 1 0 1 2 0 2 1 3 2 3 0, behind them the row is
     * 1023 0123 1203 2013 0213 2130 1320 3201 2301 3012 0132 1320, and from then on all go to the
     * end: 1 3 2 0 again and again.
     */
    private static final int[] DOUBLES = {0, 1, 0, 1, 2, 0, 2, 1, 3, 2, 3, 0, 1, 3, 2, 0};

    public static void main(String[] args) {
        promise19Stands();
        promise20Behind();
        promise20EveryLaw();
        promise20DoubledTo99();
        promise21Served();
        promise22Round();
        promise23When();
        promise24Never();
        promise25Stand();
        promise26Leader();
        promise27Waits();
        promise28Several();
        promise29Beside();
        promise30Unlike();
        promise31LawFor();
        promise32Newcomer();
        promise33Forward();
        promise34Level();
        promise35Spread();
        promise36Fairest();
        promise44Tail();
        withinJust999();
        nothingIsChanged();
        DUE.end();
    }

    private static BackByTwice doubles() {
        return Due.shopOf("people 4; law 1 0");
    }

    private static BackByTwice lawless() {
        return Due.shopOf("people 4");
    }

    private static BackByTwice nobody() {
        return Due.shopOf("law 0 1; law 5 0");
    }

    private static void promise19Stands() {
        BackByTwice x = doubles();
        int[] sixth = {2, 1, 3, 0};
        for (int place = 0; place < 4; place++) {
            int p = place;
            DUE.answered("stands(0)", x, () -> x.stands(0, p), p);
            DUE.answered("stands(6)", x, () -> x.stands(6, p), sixth[p]);
        }
        // Behind 12 TURNS all go to the end, so behind 12 + 4k they stand as behind 12.
        DUE.is("stands(996)", x.stands(996, 0), 1);
        DUE.is("stands(999)", x.stands(999, 0), 0);
        int[][] bad = {{-1, 0}, {1000, 0}, {0, -1}, {0, 4}};
        for (int[] b : bad) {
            DUE.refused("stands" + java.util.Arrays.toString(b), x, () -> x.stands(b[0], b[1]), -2);
        }
        BackByTwice y = lawless();
        DUE.refused("stands without laws", y, () -> y.stands(0, 0), -5);
        DUE.refused("stands, bad ahead of stuck", y, () -> y.stands(0, 4), -2);
        BackByTwice z = nobody();
        DUE.refused("stands of nobody", z, () -> z.stands(0, 0), -2);
    }

    private static void promise20Behind() {
        BackByTwice x = doubles();
        DUE.answered("PLACE behind 6", x, () -> x.behind(6, 0, 0), 3);
        DUE.answered("COUNT behind 6", x, () -> x.behind(6, 0, 1), 3);
        DUE.answered("LAST behind 6", x, () -> x.behind(6, 0, 2), 8);
        DUE.answered("PLACE behind 6", x, () -> x.behind(6, 3, 0), 2);
        DUE.answered("COUNT behind 6", x, () -> x.behind(6, 3, 1), 0);
        DUE.answered("LAST behind 6", x, () -> x.behind(6, 3, 2), 1);
        DUE.answered("COUNT behind none", x, () -> x.behind(0, 0, 1), 0);
        // Each is served once in four TURNS from the twelfth on: 0 is served in 12, 16, .. 996.
        DUE.answered("COUNT behind 999", x, () -> x.behind(999, 0, 1), 3 + 247);
        int[][] bad = {{-1, 0, 0}, {1000, 0, 0}, {0, -1, 0}, {0, 4, 0}, {0, 0, -1}, {0, 0, 3}};
        for (int[] b : bad) {
            DUE.refused("behind" + java.util.Arrays.toString(b), x,
                () -> x.behind(b[0], b[1], b[2]), -2);
        }
        BackByTwice y = lawless();
        DUE.refused("behind without laws", y, () -> y.behind(0, 0, 0), -5);
        DUE.refused("behind, bad ahead of stuck", y, () -> y.behind(0, 0, 3), -2);
    }

    /** Behind one TURN of six, the first having COUNT and LAST: his PLACE, LAST; COUNT is 1 more. */
    private static void oneTurn(int kind, int a, int count, int last, int place, int lastThen) {
        BackByTwice x = Due.shopOf("people 6");
        x.law(kind, a);
        x.tell(0, 0, count);
        x.tell(0, 1, last);
        String what = "one TURN by " + kind + " " + a + " of COUNT " + count + ", LAST " + last;
        DUE.is("PLACE behind " + what, x.behind(1, 0, 0), place);
        DUE.is("COUNT behind " + what, x.behind(1, 0, 1), count + 1);
        DUE.is("LAST behind " + what, x.behind(1, 0, 2), lastThen);
        for (int other = 1; other < 6; other++) {
            DUE.is("another's PLACE", x.behind(1, other, 0), other <= place ? other - 1 : other);
            DUE.is("another's COUNT", x.behind(1, other, 1), 0);
            DUE.is("another's LAST", x.behind(1, other, 2), 1);
        }
    }

    private static void promise20EveryLaw() {
        oneTurn(0, 0, 7, 3, 0, 3);
        oneTurn(0, 4, 7, 3, 4, 3);
        oneTurn(0, 5, 7, 3, 5, 3);
        oneTurn(0, 15, 7, 3, 5, 3);
        oneTurn(1, 2, 7, 3, 3, 6);
        oneTurn(1, 2, 7, 5, 5, 10);
        oneTurn(1, 2, 7, 40, 5, 80);
        oneTurn(2, 9, 0, 3, 1, 3);
        oneTurn(2, 9, 3, 1, 4, 1);
        oneTurn(2, 9, 5, 1, 5, 1);
        oneTurn(2, 9, 999, 1, 5, 1);
        oneTurn(3, 9, 7, 1, 1, 2);
        oneTurn(3, 9, 7, 4, 4, 8);
        oneTurn(3, 9, 7, 5, 5, 1);
        oneTurn(3, 9, 7, 6, 5, 1);
        oneTurn(3, 9, 7, 99, 5, 1);
        oneTurn(4, 0, 1, 9, 2, 9);
        oneTurn(4, 3, 0, 9, 4, 9);
        oneTurn(4, 3, 2, 9, 5, 9);
        oneTurn(5, 1, 0, 9, 5, 9);
    }

    private static void promise20DoubledTo99() {
        oneTurn(1, 0, 0, 49, 5, 98);
        oneTurn(1, 0, 0, 50, 5, 99);
        oneTurn(1, 0, 0, 99, 5, 99);
        BackByTwice x = Due.shopOf("people 1; law 1 0; law 3 0");
        DUE.is("LAST of one alone by DOUBLE", x.behind(6, 0, 2), 64);
        DUE.is("LAST of one alone by DOUBLE", x.behind(7, 0, 2), 99);
        DUE.is("LAST of one alone by DOUBLE", x.behind(999, 0, 2), 99);
        x.use(1);
        DUE.is("LAST of one alone by HALF", x.behind(9, 0, 2), 1);
    }

    private static void promise21Served() {
        BackByTwice x = doubles();
        for (int n = 1; n <= DOUBLES.length; n++) {
            DUE.is("served(" + n + ")", x.served(n), DOUBLES[n - 1]);
        }
        DUE.answered("served(999)", x, () -> x.served(999), 2);
        DUE.answered("served(1000 - 4)", x, () -> x.served(996), 0);
        DUE.refused("served(0)", x, () -> x.served(0), -2);
        DUE.refused("served(1000)", x, () -> x.served(1000), -2);
        BackByTwice y = lawless();
        DUE.refused("served without laws", y, () -> y.served(1), -5);
        DUE.refused("served, bad ahead of stuck", y, () -> y.served(0), -2);
        BackByTwice z = nobody();
        DUE.refused("served of nobody", z, () -> z.served(1), -5);
        DUE.refused("served, bad ahead of stuck", z, () -> z.served(1000), -2);
    }

    private static void promise22Round() {
        BackByTwice x = doubles();
        DUE.answered("round", x, x::round, 2);
        x.serve(12);
        DUE.is("round, all going to the end", x.round(), 4);
        BackByTwice y = Due.shopOf("people 5; law 0 0; law 0 2; law 5 0");
        DUE.is("round, the first staying", y.round(), 1);
        y.use(1);
        DUE.is("round of the first three", y.round(), 3);
        y.use(2);
        DUE.is("round of all", y.round(), 5);
        BackByTwice lawless = lawless();
        DUE.refused("round without laws", lawless, lawless::round, -5);
        BackByTwice nobody = nobody();
        DUE.refused("round of nobody", nobody, nobody::round, -5);
        roundWhateverLasts();
        noRound();
    }

    private static void roundWhateverLasts() {
        // 0 goes behind two, 1 behind one, then behind all: 120 210 120 201 012.
        BackByTwice x = Due.shopOf("people 3; law 1 0");
        x.tell(0, 1, 2);
        DUE.is("round, LASTS doubling", x.round(), 5);
    }

    private static void noRound() {
        // By OWN 120, 210, 102, 021 and, all going to the end from then on, 210 again.
        BackByTwice x = Due.shopOf("people 3; law 2 0; count 0 1; count 2 5");
        DUE.answered("round, none", x, x::round, -1);
        // A round of 16 by END is behind 16 TURNS; nothing is said of more than 999.
        BackByTwice y = Due.shopOf("people 16; law 5 0");
        DUE.answered("round of sixteen", y, y::round, 16);
    }

    private static void promise23When() {
        BackByTwice x = doubles();
        int[][] due = {{0, 1, 1}, {0, 2, 3}, {0, 3, 6}, {0, 4, 12}, {1, 1, 2}, {1, 3, 8}, {2, 1, 5},
            {3, 1, 9}, {3, 2, 11}, {3, 3, 14}, {0, 99, 12 + 95 * 4}};
        for (int[] d : due) {
            DUE.answered("when(" + d[0] + ", " + d[1] + ")", x, () -> x.when(d[0], d[1]), d[2]);
        }
        BackByTwice y = Due.shopOf("people 12; law 5 0");
        DUE.answered("when, the last of 999", y, () -> y.when(2, 84), 999);
        DUE.answered("when, behind 999", y, () -> y.when(3, 84), -1);
        int[][] bad = {{-1, 1}, {12, 1}, {0, 0}, {0, 100}, {0, -1}};
        for (int[] b : bad) {
            DUE.refused("when" + java.util.Arrays.toString(b), y, () -> y.when(b[0], b[1]), -2);
        }
        BackByTwice z = lawless();
        DUE.refused("when without laws", z, () -> z.when(0, 1), -5);
        DUE.refused("when, bad ahead of stuck", z, () -> z.when(0, 0), -2);
        BackByTwice w = nobody();
        DUE.refused("when of nobody", w, () -> w.when(0, 1), -2);
    }

    private static void promise24Never() {
        BackByTwice x = Due.shopOf("people 5; law 0 0; law 0 2; law 5 0");
        DUE.answered("never, but the first", x, x::never, 0b11110);
        x.use(1);
        DUE.answered("never, but three", x, x::never, 0b11000);
        x.use(2);
        DUE.answered("never, none", x, x::never, 0);
        x.use(1);
        x.moves(4, 1);
        DUE.answered("never, but three", x, x::never, 0b01100);
        BackByTwice lawless = lawless();
        DUE.refused("never without laws", lawless, lawless::never, -5);
        BackByTwice nobody = nobody();
        DUE.refused("never of nobody", nobody, nobody::never, -5);
        BackByTwice all = Due.shopOf("people 16; law 0 0");
        DUE.is("never of sixteen", all.never(), 0xfffe);
    }

    private static void promise25Stand() {
        BackByTwice x = doubles();
        x.serve(5);
        // The row is 0 2 1 3; served are 0 2 1 3 2 3 0.
        int[] due = {0, 1, 2, 3, 1, 3, 0};
        for (int n = 1; n <= due.length; n++) {
            DUE.is("stand(" + n + ")", x.stand(n), due[n - 1]);
        }
        // 1 3 2 0 again and again: from here on 0 is served at 7, 11, .. 999, and 2 at 994.
        DUE.answered("stand(994)", x, () -> x.stand(994), 1);
        DUE.answered("stand(999)", x, () -> x.stand(999), 0);
        DUE.refused("stand(0)", x, () -> x.stand(0), -2);
        DUE.refused("stand(1000)", x, () -> x.stand(1000), -2);
        BackByTwice y = lawless();
        DUE.refused("stand without laws", y, () -> y.stand(1), -5);
        BackByTwice z = nobody();
        DUE.refused("stand of nobody", z, () -> z.stand(1), -5);
        DUE.refused("stand, bad ahead of stuck", z, () -> z.stand(0), -2);
    }

    private static void promise26Leader() {
        BackByTwice x = Due.shopOf("people 4; law 1 0; count 3 50");
        x.tell(0, 1, 99);
        // COUNTS and LASTS as at first: 0 1 0 1 2 0 2 1.
        DUE.answered("leader(0)", x, () -> x.leader(0), 0);
        DUE.answered("leader(1)", x, () -> x.leader(1), 0);
        DUE.answered("leader(2)", x, () -> x.leader(2), 0);
        DUE.answered("leader(4)", x, () -> x.leader(4), 0);
        DUE.is("LAST is changed in thought alone", x.personOf(0, 2), 99);
        DUE.is("COUNT is changed in thought alone", x.personOf(3, 1), 50);
        x.moves(2, 0);
        DUE.is("leader, another first", x.leader(1), 2);
        DUE.is("leader of two alike", x.leader(2), 0);
        DUE.is("leader", x.leader(3), 2);
        DUE.answered("leader(999)", x, () -> x.leader(999), leaderByBehind(x, 999));
        DUE.refused("leader(-1)", x, () -> x.leader(-1), -2);
        DUE.refused("leader(1000)", x, () -> x.leader(1000), -2);
        BackByTwice y = lawless();
        DUE.refused("leader without laws", y, () -> y.leader(0), -5);
        BackByTwice z = nobody();
        DUE.refused("leader of nobody", z, () -> z.leader(0), -5);
        DUE.refused("leader, bad ahead of stuck", z, () -> z.leader(1000), -2);
    }

    private static int leaderByBehind(BackByTwice x, int n) {
        x.image();
        x.anew();
        int best = 0;
        for (int person = 1; person < x.status(0); person++) {
            if (x.behind(n, person, 1) > x.behind(n, best, 1)) {
                best = person;
            }
        }
        x.back();
        return best;
    }

    private static void promise27Waits() {
        BackByTwice x = doubles();
        DUE.answered("waits(0)", x, () -> x.waits(0), 6);
        DUE.answered("waits(1)", x, () -> x.waits(1), 5);
        DUE.answered("waits(2): to the first", x, () -> x.waits(2), 5);
        DUE.answered("waits(3): to the first", x, () -> x.waits(3), 9);
        BackByTwice y = Due.shopOf("people 3; law 0 1");
        DUE.answered("waits of one never served", y, () -> y.waits(2), -1);
        DUE.answered("waits of one", y, () -> y.waits(1), 2);
        DUE.refused("waits(-1)", y, () -> y.waits(-1), -2);
        DUE.refused("waits(3)", y, () -> y.waits(3), -2);
        BackByTwice z = lawless();
        DUE.refused("waits without laws", z, () -> z.waits(0), -5);
        DUE.refused("waits, bad ahead of stuck", z, () -> z.waits(4), -2);
        BackByTwice w = nobody();
        DUE.refused("waits of nobody", w, () -> w.waits(0), -2);
    }

    private static void promise28Several() {
        BackByTwice x = doubles();
        int[] due = {0, 1, 2, 2, 2, 3, 3, 3, 3, 4, 4};
        for (int n = 0; n < due.length; n++) {
            DUE.is("several(" + n + ")", x.several(n), due[n]);
        }
        DUE.answered("several(999)", x, () -> x.several(999), 4);
        DUE.refused("several(-1)", x, () -> x.several(-1), -2);
        DUE.refused("several(1000)", x, () -> x.several(1000), -2);
        BackByTwice y = lawless();
        DUE.refused("several without laws", y, () -> y.several(0), -5);
        BackByTwice z = nobody();
        DUE.refused("several of nobody", z, () -> z.several(0), -5);
        DUE.refused("several, bad ahead of stuck", z, () -> z.several(1000), -2);
    }

    private static void promise29Beside() {
        BackByTwice x = doubles();
        DUE.answered("beside(0, 1)", x, () -> x.beside(0, 1), 0);
        DUE.answered("beside(3, 2)", x, () -> x.beside(3, 2), 0);
        DUE.answered("beside(0, 2)", x, () -> x.beside(0, 2), 1);
        DUE.answered("beside(0, 3)", x, () -> x.beside(0, 3), 3);
        DUE.answered("beside(3, 0)", x, () -> x.beside(3, 0), 3);
        DUE.answered("beside(1, 3)", x, () -> x.beside(1, 3), 4);
        BackByTwice y = Due.shopOf("people 5; law 0 1");
        DUE.answered("beside, never", y, () -> y.beside(0, 3), -1);
        int[][] bad = {{-1, 0}, {5, 0}, {0, -1}, {0, 5}, {2, 2}};
        for (int[] b : bad) {
            DUE.refused("beside" + java.util.Arrays.toString(b), y, () -> y.beside(b[0], b[1]), -2);
        }
        BackByTwice z = lawless();
        DUE.refused("beside without laws", z, () -> z.beside(0, 1), -5);
        DUE.refused("beside, bad ahead of stuck", z, () -> z.beside(1, 1), -2);
        BackByTwice w = Due.shopOf("people 16; law 5 0; law 0 14");
        DUE.is("beside, going about", w.beside(0, 15), 1);
        w.use(1);
        DUE.is("beside, 15 staying last", w.beside(0, 15), 1);
    }

    private static void promise30Unlike() {
        BackByTwice x = Due.shopOf("people 4; law 1 0; law 5 0; law 0 1; law 1 9; law 0 3");
        // DOUBLE 0 1 0 1 2, END 0 1 2 3, LAW 0 1 0 1 0.
        DUE.answered("unlike(0, 1)", x, () -> x.unlike(0, 1), 3);
        DUE.answered("unlike(1, 0)", x, () -> x.unlike(1, 0), 3);
        DUE.answered("unlike(0, 2)", x, () -> x.unlike(0, 2), 5);
        DUE.answered("unlike(0, 3)", x, () -> x.unlike(0, 3), -1);
        DUE.answered("unlike(1, 4)", x, () -> x.unlike(1, 4), -1);
        DUE.answered("unlike the same", x, () -> x.unlike(0, 0), -1);
        x.tell(0, 1, 9);
        // From now on, not as at first: DOUBLE 0 1 2 .., LAW 0 1 0.
        DUE.answered("unlike, LASTS as they are", x, () -> x.unlike(0, 2), 3);
        int[][] bad = {{-1, 0}, {5, 0}, {0, -1}, {0, 5}};
        for (int[] b : bad) {
            DUE.refused("unlike" + java.util.Arrays.toString(b), x, () -> x.unlike(b[0], b[1]), -2);
        }
        BackByTwice z = nobody();
        DUE.refused("unlike of nobody", z, () -> z.unlike(0, 1), -5);
        DUE.refused("unlike, bad ahead of stuck", z, () -> z.unlike(0, 2), -2);
        BackByTwice y = lawless();
        DUE.refused("unlike without laws", y, () -> y.unlike(0, 0), -2);
    }

    private static void promise31LawFor() {
        BackByTwice x = Due.shopOf("people 4; law 5 0; law 0 1; law 0 0; law 0 0; count 2 7");
        DUE.answered("lawFor(0, 10)", x, () -> x.lawFor(0, 10), 2);
        DUE.answered("lawFor(1, 10)", x, () -> x.lawFor(1, 10), 1);
        DUE.answered("lawFor(3, 10)", x, () -> x.lawFor(3, 10), 0);
        DUE.answered("lawFor(0, 0)", x, () -> x.lawFor(0, 0), 0);
        DUE.answered("lawFor(0, 2): of several", x, () -> x.lawFor(0, 2), 2);
        DUE.answered("lawFor(1, 3): of several", x, () -> x.lawFor(1, 3), 0);
        DUE.answered("lawFor(0, 999)", x, () -> x.lawFor(0, 999), 2);
        DUE.is("in force as it was", x.status(2), 0);
        int[][] bad = {{-1, 0}, {4, 0}, {0, -1}, {0, 1000}};
        for (int[] b : bad) {
            DUE.refused("lawFor" + java.util.Arrays.toString(b), x, () -> x.lawFor(b[0], b[1]), -2);
        }
        BackByTwice y = lawless();
        DUE.refused("lawFor without laws", y, () -> y.lawFor(0, 0), -5);
        DUE.refused("lawFor, bad ahead of stuck", y, () -> y.lawFor(0, 1000), -2);
        BackByTwice z = nobody();
        DUE.refused("lawFor of nobody", z, () -> z.lawFor(0, 0), -2);
        // Not as at first: by OWN he of COUNT 9 goes to the end, he of COUNT 0 doesn't.
        BackByTwice w = Due.shopOf("people 4; law 2 0; law 0 2; count 0 9");
        DUE.is("lawFor, COUNTS as they are", w.lawFor(0, 4), 1);
        w.tell(0, 0, 0);
        DUE.is("lawFor, COUNTS as they are", w.lawFor(0, 4), 0);
    }

    private static void promise32Newcomer() {
        BackByTwice x = Due.shopOf("people 3; law 1 0; law 0 0; law 5 0");
        // With a fourth: as DOUBLES has it.
        DUE.answered("newcomer", x, x::newcomer, 9);
        x.use(1);
        DUE.answered("newcomer, never", x, x::newcomer, -1);
        x.use(2);
        DUE.answered("newcomer, behind all", x, x::newcomer, 4);
        DUE.is("people", x.status(0), 3);
        BackByTwice y = nobody();
        DUE.answered("newcomer, the first", y, y::newcomer, 1);
        BackByTwice z = Due.shopOf("people 16");
        DUE.refused("newcomer without laws, ahead of full", z, z::newcomer, -5);
        z.law(5, 0);
        DUE.refused("newcomer, full", z, z::newcomer, -6);
        z.leaves();
        DUE.answered("newcomer, the last there's room for", z, z::newcomer, 16);
    }

    private static void promise33Forward() {
        BackByTwice x = Due.shopOf("people 6; law 5 0; law 0 2; law 1 0");
        DUE.answered("forward, not needed", x, () -> x.forward(4, 1, 5), 0);
        DUE.answered("forward by one", x, () -> x.forward(4, 1, 4), 1);
        DUE.answered("forward to the first", x, () -> x.forward(4, 1, 1), 4);
        DUE.answered("forward, none", x, () -> x.forward(4, 1, 0), -1);
        DUE.answered("forward, twice", x, () -> x.forward(4, 2, 9), 2);
        DUE.answered("forward, none", x, () -> x.forward(4, 2, 6), -1);
        DUE.answered("forward, the first", x, () -> x.forward(0, 1, 1), 0);
        DUE.answered("forward, all of 999", x, () -> x.forward(2, 99, 999), 0);
        x.use(1);
        DUE.answered("forward into the first three", x, () -> x.forward(5, 99, 999), 3);
        x.use(2);
        // Those he passes come behind him, in the order that they had.
        DUE.answered("forward by DOUBLE", x, () -> x.forward(3, 1, 8), forwardByMoves(x, 3, 1, 8));
        DUE.is("the row is as it was", Due.digits(x), 9012345);
        int[][] bad = {{-1, 1, 0}, {6, 1, 0}, {0, 0, 0}, {0, 100, 0}, {0, 1, -1}, {0, 1, 1000}};
        for (int[] b : bad) {
            DUE.refused("forward" + java.util.Arrays.toString(b), x,
                () -> x.forward(b[0], b[1], b[2]), -2);
        }
        BackByTwice y = lawless();
        DUE.refused("forward without laws", y, () -> y.forward(0, 1, 0), -5);
        DUE.refused("forward, bad ahead of stuck", y, () -> y.forward(0, 1, 1000), -2);
        BackByTwice z = nobody();
        DUE.refused("forward of nobody", z, () -> z.forward(0, 1, 0), -2);
    }

    private static int forwardByMoves(BackByTwice x, int person, int k, int n) {
        int place = x.personOf(person, 0);
        int found = -1;
        for (int ahead = 0; found < 0 && ahead <= place; ahead++) {
            x.moves(person, place - ahead);
            int turn = x.when(person, k);
            found = turn != -1 && turn <= n ? ahead : -1;
        }
        x.moves(person, place);
        return found;
    }

    private static void promise34Level() {
        BackByTwice x = Due.shopOf("people 4; law 5 0; law 0 1; law 1 0; count 2 9");
        DUE.answered("level by END", x, () -> x.level(0), 4);
        DUE.answered("level, none", x, () -> x.level(1), -1);
        // DOUBLES: COUNTS 4 4 4 3 behind 15, and from then on one is ahead in each four TURNS.
        DUE.answered("level by DOUBLE, none", x, () -> x.level(2), -1);
        BackByTwice two = Due.shopOf("people 2; law 1 0; count 0 5");
        two.tell(0, 1, 9);
        two.moves(1, 0);
        DUE.answered("level of two by DOUBLE", two, () -> two.level(0), 2);
        // LASTS 1 ahead: 0 1 0 1 2 0 2 and then 1 0 2 by turns, COUNTS 3 2 2, 3 3 2, 4 3 2, 4 3 3 ..
        BackByTwice three = Due.shopOf("people 3; law 1 0");
        for (int person = 0; person < 3; person++) {
            three.tell(person, 1, 9);
        }
        DUE.answered("level, whatever LASTS are", three, () -> three.level(0), -1);
        DUE.refused("level(-1)", x, () -> x.level(-1), -2);
        DUE.refused("level(3)", x, () -> x.level(3), -2);
        BackByTwice y = Due.shopOf("people 1; law 0 3; count 0 8");
        DUE.is("level of one alone", y.level(0), 1);
        BackByTwice z = nobody();
        DUE.refused("level of nobody", z, () -> z.level(0), -5);
        DUE.refused("level, bad ahead of stuck", z, () -> z.level(2), -2);
    }

    private static void promise35Spread() {
        BackByTwice x = Due.shopOf("people 4; law 5 0; law 0 0; law 1 0; count 2 9; count 1 3");
        x.tell(0, 1, 50);
        DUE.answered("spread of none", x, () -> x.spread(0, 0), 0);
        DUE.answered("spread by END", x, () -> x.spread(0, 3), 1);
        DUE.answered("spread by END", x, () -> x.spread(0, 8), 0);
        DUE.answered("spread, the first staying", x, () -> x.spread(1, 999), 999);
        DUE.answered("spread by DOUBLE", x, () -> x.spread(2, 4), 2);
        DUE.answered("spread by DOUBLE", x, () -> x.spread(2, 6), 3);
        DUE.answered("spread by DOUBLE", x, () -> x.spread(2, 11), 1);
        DUE.answered("spread by DOUBLE", x, () -> x.spread(2, 12), 2);
        int[][] bad = {{-1, 0}, {3, 0}, {0, -1}, {0, 1000}};
        for (int[] b : bad) {
            DUE.refused("spread" + java.util.Arrays.toString(b), x, () -> x.spread(b[0], b[1]), -2);
        }
        BackByTwice z = nobody();
        DUE.refused("spread of nobody", z, () -> z.spread(0, 0), -5);
        DUE.refused("spread, bad ahead of stuck", z, () -> z.spread(0, 1000), -2);
        BackByTwice y = lawless();
        DUE.refused("spread without laws", y, () -> y.spread(0, 0), -2);
    }

    private static void promise36Fairest() {
        BackByTwice x = Due.shopOf("people 4; law 0 0; law 1 0; law 5 0; law 0 3; count 2 9");
        x.use(3);
        x.tell(0, 1, 9);
        DUE.answered("fairest of none", x, () -> x.fairest(0), 0);
        DUE.answered("fairest(1): all alike", x, () -> x.fairest(1), 0);
        DUE.answered("fairest(2)", x, () -> x.fairest(2), 1);
        DUE.answered("fairest(3)", x, () -> x.fairest(3), 2);
        DUE.answered("fairest(8)", x, () -> x.fairest(8), 2);
        DUE.answered("fairest(999)", x, () -> x.fairest(999), 1);
        DUE.is("in force as it was", x.status(2), 3);
        DUE.refused("fairest(-1)", x, () -> x.fairest(-1), -2);
        DUE.refused("fairest(1000)", x, () -> x.fairest(1000), -2);
        BackByTwice y = lawless();
        DUE.refused("fairest without laws", y, () -> y.fairest(0), -5);
        DUE.refused("fairest, bad ahead of stuck", y, () -> y.fairest(1000), -2);
        BackByTwice z = nobody();
        DUE.refused("fairest of nobody", z, () -> z.fairest(0), -5);
    }

    private static void promise44Tail() {
        BackByTwice x = doubles();
        int[] due = {3, 3, 3, 3, 3, 3, 0, 0, 1, 1, 2, 2, 0};
        for (int n = 0; n < due.length; n++) {
            DUE.is("tail(" + n + ")", x.tail(n), due[n]);
        }
        DUE.answered("tail(999)", x, () -> x.tail(999), 2);
        DUE.refused("tail(-1)", x, () -> x.tail(-1), -2);
        DUE.refused("tail(1000)", x, () -> x.tail(1000), -2);
        BackByTwice y = lawless();
        DUE.refused("tail without laws", y, () -> y.tail(0), -5);
        BackByTwice z = nobody();
        DUE.refused("tail of nobody", z, () -> z.tail(0), -5);
        DUE.refused("tail, bad ahead of stuck", z, () -> z.tail(1000), -2);
    }

    /** By HALF, all LASTS 1 but those told: each pair is one of the PEOPLE and his LAST. */
    private static BackByTwice halves(int people, int... pairs) {
        BackByTwice x = Due.shopOf("law 3 0; people " + people);
        for (int i = 0; i < pairs.length; i += 2) {
            x.tell(pairs[i], 1, pairs[i + 1]);
        }
        return x;
    }

    /** Found by search: what comes first at TURN 999, and what at 1000, where nobody looks. */
    private static void withinJust999() {
        DUE.is("round, at 999", halves(10, 1, 4, 2, 9).round(), 999);
        DUE.is("round, at 1000", halves(10, 0, 13, 2, 8, 3, 10).round(), -1);
        DUE.is("beside, at 999", halves(15, 7, 11, 9, 11, 12, 6).beside(6, 14), 999);
        DUE.is("beside, at 1000", halves(16, 7, 12, 11, 8, 12, 16).beside(7, 15), -1);
        DUE.is("waits, to 999", halves(15, 5, 18, 13, 11).waits(7), 55);
        BackByTwice x = halves(11, 3, 8, 9, 14);
        DUE.is("waits, to 1000", x.waits(4), longestWait(x, 4));
        DUE.is("waits, to 1000, isn't seen", x.waits(4) < 45 ? 1 : 0, 1);
    }

    private static int longestWait(BackByTwice x, int person) {
        int most = 0;
        int last = 0;
        for (int k = 1; k <= 99; k++) {
            int turn = x.when(person, k);
            most = turn == -1 ? most : Math.max(most, turn - last);
            last = turn == -1 ? last : turn;
        }
        return most;
    }

    private static void nothingIsChanged() {
        BackByTwice x = Due.shopOf("people 5; law 1 0; law 3 0; law 4 2; serve 7; count 4 3");
        long[] ahead = everything(x);
        x.stands(9, 1);
        x.behind(9, 1, 2);
        x.served(9);
        x.round();
        x.when(3, 2);
        x.never();
        x.stand(9);
        x.leader(9);
        x.waits(2);
        x.several(9);
        x.beside(0, 4);
        x.unlike(0, 2);
        x.lawFor(1, 9);
        x.newcomer();
        x.forward(4, 1, 2);
        x.level(1);
        x.spread(1, 9);
        x.fairest(9);
        x.tail(9);
        long[] then = everything(x);
        for (int i = 0; i < ahead.length; i++) {
            DUE.is("what is known of the shop, " + i, then[i], ahead[i]);
        }
    }

    private static long[] everything(BackByTwice x) {
        long[] all = new long[16 + 3 * x.status(0)];
        all[0] = Due.digits(x);
        for (int what = 0; what <= 8; what++) {
            all[1 + what] = x.status(what);
        }
        for (int person = 0; person < x.status(0); person++) {
            for (int what = 0; what < 3; what++) {
                all[16 + 3 * person + what] = x.personOf(person, what);
            }
        }
        return all;
    }
}
