/** Promises 37 to 39, 46 and 47: told slates, lettings before in thought. */
public final class SlateTest {
    private static final Due DUE = new Due("SlateTest");

    public static void main(String[] args) {
        promise37Judge();
        promise37JudgeOfEverySort();
        promise38Fits();
        promise39Pushed();
        promise39PushedTheFirstMove();
        promise39PushedNone();
        promise46After();
        promise46AfterStuck();
        promise47Fewest();
        promise47FewestStuck();
        refusedAsJudge();
        fewestRefusedAsJudge();
        DUE.end();
    }

    private static void promise37Judge() {
        BackByTwice x = Due.shopOf("people 4; law 1 0; law 5 0");
        Due.rowOf(x, 0, 0, 0, 1, 0, 1, 2, 0, 2, 1, 3);
        DUE.answered("judge of none", x, () -> x.judge(0, 0), -1);
        DUE.answered("judge of all", x, () -> x.judge(0, 9), -1);
        x.set(0, 8, 2);
        DUE.answered("judge, the last wrong", x, () -> x.judge(0, 9), 8);
        DUE.answered("judge of those ahead of it", x, () -> x.judge(0, 8), -1);
        x.set(0, 4, 3);
        DUE.answered("judge, two wrong", x, () -> x.judge(0, 9), 4);
        x.set(0, 0, 4);
        DUE.answered("judge, no such one", x, () -> x.judge(0, 9), 0);
        x.set(0, 0, -1);
        DUE.answered("judge, no such one", x, () -> x.judge(0, 9), 0);
        x.set(0, 0, 0);
        x.use(1);
        DUE.answered("judge by another law", x, () -> x.judge(0, 9), 2);
        x.use(0);
        x.serve(2);
        Due.rowOf(x, 1, 1, 0, 1, 2, 0);
        DUE.answered("judge from now on", x, () -> x.judge(1, 4), -1);
        DUE.is("the row is as it was", Due.digits(x), 90123);
        Due.rowOf(x, 2, 2, new long[40]);
        DUE.answered("judge of forty", x, () -> x.judge(2, 40), 1);
        BackByTwice y = Due.shopOf("people 1; law 0 0");
        y.row(7, 3, 40);
        DUE.answered("judge of forty, none wrong", y, () -> y.judge(7, 40), -1);
    }

    private static void promise37JudgeOfEverySort() {
        BackByTwice x = Due.shopOf("people 2; law 5 0");
        for (int sort = 0; sort <= 4; sort++) {
            Due.rowOf(x, sort, sort, 0, 1, 0, 1);
            DUE.is("judge of sort " + sort, x.judge(sort, 4), -1);
            x.set(sort, 3, 0);
            DUE.is("judge of sort " + sort, x.judge(sort, 4), 3);
        }
        // A long whose lowest bits alone would be right is wrong.
        Due.rowOf(x, 3, 3, 0, (1L << 32) + 1);
        DUE.is("judge of a long", x.judge(3, 2), 1);
        Due.rowOf(x, 4, 4, 0, 1L << 32);
        DUE.is("judge of a boolean", x.judge(4, 2), -1);
    }

    private static void promise38Fits() {
        BackByTwice x = Due.shopOf(
            "people 4; law 1 0; law 5 0; law 0 1; law 0 3; law 2 0; law 3 0");
        DUE.is("in force", x.use(2), 0);
        Due.rowOf(x, 0, 0, 0, 1, 0, 1, 2);
        // DOUBLE, OWN and HALF serve 0 1 0 1 2, END and LAW 3 0 1 2, LAW 1 0 1 0 1 0.
        DUE.answered("fits(0)", x, () -> x.fits(0, 0), 0b111111);
        DUE.answered("fits(1)", x, () -> x.fits(0, 1), 0b111111);
        DUE.answered("fits(2)", x, () -> x.fits(0, 2), 0b111111);
        DUE.answered("fits(3)", x, () -> x.fits(0, 3), 0b110101);
        DUE.answered("fits(5)", x, () -> x.fits(0, 5), 0b110001);
        Due.rowOf(x, 1, 4, 0, 1, 1);
        DUE.answered("fits, none", x, () -> x.fits(1, 3), 0);
        Due.rowOf(x, 2, 2, 0, 1, 2);
        DUE.answered("fits", x, () -> x.fits(2, 3), 0b001010);
        x.tell(0, 1, 9);
        DUE.answered("fits, LASTS as they are", x, () -> x.fits(2, 3), 0b101011);
        x.tell(0, 0, 9);
        DUE.answered("fits, COUNTS as they are", x, () -> x.fits(2, 3), 0b111011);
        DUE.is("in force as it was", x.status(2), 2);
        DUE.is("COUNT as it was", x.personOf(0, 1), 9);
    }

    private static void promise39Pushed() {
        BackByTwice x = Due.shopOf("people 5; law 5 0");
        Due.rowOf(x, 0, 0, 0, 1, 2, 3, 4);
        DUE.answered("pushed: it is so already", x, () -> x.pushed(0, 5), -1);
        Due.rowOf(x, 0, 0, 1, 2, 3, 0, 4);
        DUE.answered("pushed: 0 back to 3", x, () -> x.pushed(0, 5), 3);
        Due.rowOf(x, 0, 0, 3, 0, 1, 2, 4);
        DUE.answered("pushed: 3 ahead to 0", x, () -> x.pushed(0, 5), 300);
        Due.rowOf(x, 0, 0, 0, 1, 4, 2, 3);
        DUE.answered("pushed: 4 ahead to 2", x, () -> x.pushed(0, 5), 402);
        DUE.is("the row is as it was", Due.digits(x), 901234);
        BackByTwice y = Due.shopOf("people 16; law 5 0");
        Due.rowOf(y, 0, 0, 15);
        DUE.is("pushed: 15 ahead to 0", y.pushed(0, 1), 1500);
        Due.rowOf(y, 0, 0, 1, 2, 3, 4, 5, 6, 7, 8, 9, 10, 11, 12, 13, 14, 15, 0);
        DUE.is("pushed: 0 back to 15", y.pushed(0, 16), 15);
    }

    private static void promise39PushedTheFirstMove() {
        BackByTwice x = Due.shopOf("people 5; law 5 0");
        Due.rowOf(x, 0, 0, 1, 0);
        DUE.answered("pushed: 0 to 1 ahead of 1 to 0", x, () -> x.pushed(0, 2), 1);
        Due.rowOf(x, 0, 0, 1);
        DUE.answered("pushed: 0 to 1, the first of four places", x, () -> x.pushed(0, 1), 1);
        Due.rowOf(x, 0, 0, 2);
        DUE.answered("pushed: by 2 alone", x, () -> x.pushed(0, 1), 200);
        Due.rowOf(x, 0, 0, 0, 2);
        DUE.answered("pushed: 1 back to 2", x, () -> x.pushed(0, 2), 102);
        // By number, not by places: the row is 1 0 2 3 4 now.
        x.lets(0);
        Due.rowOf(x, 0, 0, 0, 1);
        DUE.answered("pushed: 0 ahead to 0", x, () -> x.pushed(0, 2), 0);
        Due.rowOf(x, 0, 0, 1, 2);
        DUE.answered("pushed: 0 back to 2", x, () -> x.pushed(0, 2), 2);
    }

    private static void promise39PushedNone() {
        BackByTwice x = Due.shopOf("people 5; law 5 0; law 1 0");
        Due.rowOf(x, 0, 0, 4, 3, 2, 1, 0);
        DUE.answered("pushed: by none", x, () -> x.pushed(0, 5), -1);
        Due.rowOf(x, 0, 0, 7);
        DUE.answered("pushed: no such one", x, () -> x.pushed(0, 1), -1);
        DUE.answered("pushed, of none", x, () -> x.pushed(0, 0), -1);
        x.use(1);
        // DOUBLE from 1 0 2 3 4: 1 0 1 0 2.
        Due.rowOf(x, 0, 0, 1, 0, 1, 0, 2);
        DUE.answered("pushed by the law in force", x, () -> x.pushed(0, 5), 1);
        BackByTwice y = Due.shopOf("people 1; law 5 0");
        y.row(0, 0, 1);
        y.set(0, 0, 1);
        DUE.answered("pushed of one alone", y, () -> y.pushed(0, 1), -1);
    }

    private static void promise46After() {
        BackByTwice x = Due.shopOf("people 5; law 5 0");
        Due.rowOf(x, 0, 0, 2, 1, 0, 0, 3);
        // 01324 03124 30124 03124 03142
        int[] due = {0, 0, 0, 3, 0, 0};
        for (int n = 0; n < due.length; n++) {
            int some = n;
            DUE.answered("after(0, " + n + ")", x, () -> x.after(0, some), due[some]);
        }
        Due.rowOf(x, 1, 3, 3, 2, 1, 0);
        DUE.answered("after: the last becomes first", x, () -> x.after(1, 4), 4);
        DUE.is("the row is as it was", Due.digits(x), 901234);
        DUE.is("TURNS are as they were", x.status(3), 0);
        x.row(2, 0, 40);
        DUE.answered("after forty", x, () -> x.after(2, 40), 0);
        DUE.answered("after thirty-nine", x, () -> x.after(2, 39), 1);
        Due.rowOf(x, 3, 4, 0, 1);
        DUE.answered("after booleans", x, () -> x.after(3, 2), 1);
    }

    private static void promise46AfterStuck() {
        BackByTwice x = Due.shopOf("people 3; law 5 0");
        long[] bad = {2, 3, -1, 1L << 32, Long.MIN_VALUE, Long.MAX_VALUE};
        for (long place : bad) {
            Due.rowOf(x, 0, 3, 1, place);
            DUE.refused("after, nobody behind " + place, x, () -> x.after(0, 2), -5);
            DUE.answered("after those ahead of " + place, x, () -> x.after(0, 1), 0);
        }
        BackByTwice y = Due.shopOf("people 1; law 5 0");
        y.row(0, 0, 1);
        DUE.refused("after of one alone", y, () -> y.after(0, 1), -5);
        DUE.answered("after none", y, () -> y.after(0, 0), 0);
    }

    private static void promise47Fewest() {
        BackByTwice x = Due.shopOf("people 4; law 5 0");
        long[][] rows = {{0, 1, 2, 3}, {1, 0, 2, 3}, {0, 1, 3, 2}, {3, 0, 1, 2}, {1, 2, 3, 0},
            {3, 2, 1, 0}, {2, 3, 0, 1}, {1, 3, 0, 2}};
        int[] due = {0, 1, 1, 3, 3, 6, 4, 3};
        for (int i = 0; i < rows.length; i++) {
            Due.rowOf(x, 0, 0, rows[i]);
            DUE.answered("fewest " + java.util.Arrays.toString(rows[i]), x, () -> x.fewest(0), due[i]);
        }
        x.moves(3, 0);
        DUE.answered("fewest from 3012", x, () -> x.fewest(0), 2);
        Due.rowOf(x, 1, 2, 3, 0, 1, 2, 77, 77);
        DUE.answered("fewest of a longer row", x, () -> x.fewest(1), 0);
        DUE.is("the row is as it was", Due.digits(x), 93012);
        BackByTwice y = Due.shopOf("people 16; law 5 0");
        Due.rowOf(y, 0, 0, 15, 14, 13, 12, 11, 10, 9, 8, 7, 6, 5, 4, 3, 2, 1, 0);
        DUE.is("fewest of sixteen", y.fewest(0), 120);
        BackByTwice z = Due.shopOf("people 2; law 5 0");
        Due.rowOf(z, 0, 4, 1, 0);
        DUE.is("fewest of booleans", z.fewest(0), 1);
    }

    private static void promise47FewestStuck() {
        BackByTwice x = Due.shopOf("people 3; law 5 0");
        long[][] rows = {{0, 1, 1}, {0, 0, 0}, {1, 2, 3}, {0, 1, -1}, {0, 1, (1L << 32) + 2},
            {0, 1, 34}, {Long.MIN_VALUE, 1, 2}, {2, 1, Long.MAX_VALUE}};
        for (long[] row : rows) {
            Due.rowOf(x, 0, 3, row);
            DUE.refused("fewest " + java.util.Arrays.toString(row), x, () -> x.fewest(0), -5);
        }
        Due.rowOf(x, 0, 0, 1, 2);
        DUE.refused("fewest of a shorter row", x, () -> x.fewest(0), -2);
    }

    private interface Slated {
        int answer(BackByTwice x, int s, int n);
    }

    private static void refusedAsJudge() {
        Slated[] all = {BackByTwice::judge, BackByTwice::fits, BackByTwice::pushed,
            BackByTwice::after};
        String[] names = {"judge", "fits", "pushed", "after"};
        for (int i = 0; i < all.length; i++) {
            refusedOf(names[i], all[i]);
        }
    }

    private static void refusedOf(String name, Slated call) {
        BackByTwice x = Due.shopOf("people 2; law 5 0");
        x.row(1, 0, 3);
        x.show(2, 0);
        DUE.refused(name + ", no shelf", x, () -> call.answer(x, -1, 0), -2);
        DUE.refused(name + ", no shelf", x, () -> call.answer(x, 8, 0), -2);
        DUE.refused(name + ", n of a row", x, () -> call.answer(x, 1, -1), -2);
        DUE.refused(name + ", n of a row", x, () -> call.answer(x, 1, 41), -2);
        DUE.refused(name + ", n of a law", x, () -> call.answer(x, 2, 41), -2);
        DUE.refused(name + ", n of nothing", x, () -> call.answer(x, 0, -1), -2);
        DUE.refused(name + " of a law", x, () -> call.answer(x, 2, 1), -3);
        DUE.refused(name + " of nothing", x, () -> call.answer(x, 0, 1), -4);
        DUE.refused(name + " of fewer", x, () -> call.answer(x, 1, 4), -2);
        DUE.refused(name + " of fewer", x, () -> call.answer(x, 1, 40), -2);
        BackByTwice lawless = Due.shopOf("people 2");
        lawless.row(1, 0, 3);
        DUE.refused(name + " without laws", lawless, () -> call.answer(lawless, 1, 0), -5);
        DUE.refused(name + ", fewer ahead of stuck", lawless, () -> call.answer(lawless, 1, 4), -2);
        DUE.refused(name + ", nothing ahead of stuck", lawless, () -> call.answer(lawless, 0, 0), -4);
        BackByTwice nobody = Due.shopOf("law 5 0");
        nobody.row(1, 0, 3);
        nobody.show(2, 0);
        DUE.refused(name + " of nobody", nobody, () -> call.answer(nobody, 1, 0), -5);
        DUE.refused(name + ", other ahead of stuck", nobody, () -> call.answer(nobody, 2, 0), -3);
    }

    private static void fewestRefusedAsJudge() {
        BackByTwice x = Due.shopOf("people 2");
        x.row(1, 0, 1);
        Due.rowOf(x, 3, 0, 0, 1);
        DUE.refused("fewest, no shelf", x, () -> x.fewest(-1), -2);
        DUE.refused("fewest, no shelf", x, () -> x.fewest(8), -2);
        DUE.refused("fewest of nothing", x, () -> x.fewest(0), -4);
        DUE.refused("fewest of fewer, ahead of stuck", x, () -> x.fewest(1), -2);
        DUE.refused("fewest without laws", x, () -> x.fewest(3), -5);
        x.law(5, 0);
        DUE.answered("fewest with a law", x, () -> x.fewest(3), 0);
        x.show(2, 0);
        DUE.refused("fewest of a law", x, () -> x.fewest(2), -3);
        BackByTwice nobody = Due.shopOf("law 5 0");
        nobody.row(1, 0, 0);
        DUE.refused("fewest of nobody", nobody, () -> nobody.fewest(1), -5);
    }
}
