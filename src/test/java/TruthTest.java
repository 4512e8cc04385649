/** Promises 48 to 60: what there is now, what is done in truth, what is kept and counted. */
public final class TruthTest {
    private static final Due DUE = new Due("TruthTest");

    public static void main(String[] args) {
        promise48Unserved();
        promise49Longest();
        promise50Ranked();
        promise51Serve();
        promise52Lets();
        promise53Moves();
        promise54Leaves();
        promise55Day();
        promise55DayOfOneAlone();
        promise55DayRefused();
        promise56Anew();
        promise57Seed();
        promise58And59ImageAndBack();
        promise58WithoutTapeShelvesRefusals();
        promise59ShelvesWithLaws();
        promise60Status();
        promise60Refusals();
        DUE.end();
    }

    private static void promise48Unserved() {
        BackByTwice x = Due.shopOf("people 5; law 5 0");
        DUE.answered("unserved at first", x, x::unserved, 0b11111);
        x.serve(2);
        DUE.answered("unserved behind two", x, x::unserved, 0b11100);
        x.tell(4, 0, 3);
        x.tell(0, 0, 0);
        DUE.answered("unserved as told", x, x::unserved, 0b01101);
        x.leaves();
        DUE.answered("unserved behind one who left", x, x::unserved, 0b01101);
        x.leaves();
        DUE.answered("unserved behind two who left", x, x::unserved, 0b00101);
        BackByTwice y = Due.shopOf("people 16");
        DUE.answered("unserved of sixteen", y, y::unserved, 0xffff);
        BackByTwice z = new BackByTwice();
        DUE.answered("unserved of nobody", z, z::unserved, 0);
    }

    private static void promise49Longest() {
        BackByTwice x = Due.shopOf("people 4");
        DUE.answered("longest, all alike", x, x::longest, 0);
        x.tell(2, 1, 9);
        DUE.answered("longest", x, x::longest, 2);
        x.tell(3, 1, 9);
        DUE.answered("longest of several", x, x::longest, 2);
        x.tell(3, 1, 10);
        DUE.answered("longest, the last", x, x::longest, 3);
        x.tell(0, 0, 99);
        DUE.answered("longest, whatever COUNTS are", x, x::longest, 3);
        x.leaves();
        DUE.answered("longest behind one who left", x, x::longest, 2);
        BackByTwice z = new BackByTwice();
        DUE.refused("longest of nobody", z, z::longest, -5);
    }

    private static void promise50Ranked() {
        BackByTwice x = Due.shopOf("people 5; count 0 3; count 1 7; count 2 3; count 3 9; let 0");
        int[] due = {3, 1, 0, 2, 4};
        for (int i = 0; i < 5; i++) {
            int one = i;
            DUE.answered("ranked(" + i + ")", x, () -> x.ranked(one), due[one]);
        }
        DUE.refused("ranked(-1)", x, () -> x.ranked(-1), -2);
        DUE.refused("ranked(5)", x, () -> x.ranked(5), -2);
        BackByTwice z = new BackByTwice();
        DUE.refused("ranked of nobody", z, () -> z.ranked(0), -2);
    }

    private static void promise51Serve() {
        BackByTwice x = Due.shopOf("people 4; law 1 0");
        int[] first = {1, 0, 1, 2, 0, 2, 1, 3, 2, 3, 0, 1};
        int[] rows = {91023, 90123, 91203, 92013, 90213, 92130, 91320, 93201, 92301, 93012, 90132,
            91320};
        for (int turn = 0; turn < first.length; turn++) {
            DUE.is("serve(1) at " + turn, x.serve(1), first[turn]);
            DUE.is("the row at " + turn, Due.digits(x), rows[turn]);
            DUE.is("TURNS at " + turn, x.status(3), turn + 1);
            DUE.is("all COUNTS at " + turn, x.status(4), turn + 1);
        }
        DUE.is("COUNT", x.personOf(0, 1), 4);
        DUE.is("LAST", x.personOf(0, 2), 16);
        DUE.answered("serve(99)", x, () -> x.serve(99), 0);
        DUE.is("TURNS", x.status(3), 111);
        BackByTwice y = Due.shopOf("people 4; law 1 0");
        DUE.answered("serve(12) is twelve times serve(1)", y, () -> y.serve(12), 1);
        DUE.is("the row", Due.digits(y), 91320);
        DUE.refused("serve(0)", y, () -> y.serve(0), -2);
        DUE.refused("serve(100)", y, () -> y.serve(100), -2);
        BackByTwice lawless = Due.shopOf("people 4");
        DUE.refused("serve without laws", lawless, () -> lawless.serve(1), -5);
        DUE.refused("serve, bad ahead of stuck", lawless, () -> lawless.serve(0), -2);
        BackByTwice nobody = Due.shopOf("law 1 0");
        DUE.refused("serve of nobody", nobody, () -> nobody.serve(1), -5);
        DUE.is("TURNS behind what was refused", nobody.status(3), 0);
        BackByTwice many = Due.shopOf("people 1; law 2 0; count 0 999");
        many.serve(99);
        DUE.is("COUNT, more than can be told", many.personOf(0, 1), 1098);
    }

    private static void promise52Lets() {
        BackByTwice x = Due.shopOf("people 4");
        DUE.answered("lets(0)", x, () -> x.lets(0), 1);
        DUE.is("the row", Due.digits(x), 91023);
        DUE.answered("lets(1)", x, () -> x.lets(1), 2);
        DUE.answered("lets(2)", x, () -> x.lets(2), 3);
        DUE.is("the row", Due.digits(x), 91230);
        DUE.refused("lets the last", x, () -> x.lets(3), -5);
        DUE.refused("lets(4)", x, () -> x.lets(4), -2);
        DUE.refused("lets(-1)", x, () -> x.lets(-1), -2);
        DUE.refused("lets far off", x, () -> x.lets(Integer.MAX_VALUE), -2);
        DUE.is("the row behind what was refused", Due.digits(x), 91230);
        BackByTwice nobody = new BackByTwice();
        DUE.refused("lets of nobody", nobody, () -> nobody.lets(0), -2);
    }

    private static void promise53Moves() {
        BackByTwice x = Due.shopOf("people 5");
        DUE.answered("moves back", x, () -> x.moves(1, 3), 1);
        DUE.is("the row", Due.digits(x), 902314);
        DUE.answered("moves ahead", x, () -> x.moves(4, 1), 4);
        DUE.is("the row", Due.digits(x), 904231);
        DUE.answered("moves to the end", x, () -> x.moves(0, 4), 0);
        DUE.is("the row", Due.digits(x), 942310);
        DUE.answered("moves to where he is", x, () -> x.moves(3, 2), 2);
        DUE.is("the row", Due.digits(x), 942310);
        int[][] bad = {{-1, 0}, {5, 0}, {0, -1}, {0, 5}};
        for (int[] b : bad) {
            DUE.refused("moves" + java.util.Arrays.toString(b), x, () -> x.moves(b[0], b[1]), -2);
        }
        DUE.is("the row behind what was refused", Due.digits(x), 942310);
        BackByTwice nobody = new BackByTwice();
        DUE.refused("moves of nobody", nobody, () -> nobody.moves(0, 0), -2);
    }

    private static void promise54Leaves() {
        BackByTwice x = Due.shopOf("people 4; let 2; let 1; let 0; count 3 9");
        DUE.is("the row", Due.digits(x), 93012);
        DUE.answered("leaves, the first in the row", x, x::leaves, 3);
        DUE.is("the row", Due.digits(x), 9012);
        DUE.is("all COUNTS", x.status(4), 0);
        x.lets(1);
        DUE.answered("leaves, in the row's middle", x, x::leaves, 2);
        DUE.is("the row", Due.digits(x), 901);
        DUE.answered("leaves, the last in the row", x, x::leaves, 1);
        DUE.answered("leaves, the last of all", x, x::leaves, 0);
        DUE.is("people", x.status(0), 0);
        DUE.refused("leaves of nobody", x, x::leaves, -5);
        DUE.is("comes behind all", x.comes(), 0);
    }

    /** A DAY told again: draws, lettings and TURNS by calls of the other promises. */
    private static int dayByCalls(BackByTwice x, int seed, int n) {
        int lettings = 0;
        int drawn = seed;
        for (int turn = 0; turn < n; turn++) {
            drawn = drawn * 1103515245 + 12345;
            if ((drawn >>> 16) % 5 == 0 && x.status(0) > 1) {
                drawn = drawn * 1103515245 + 12345;
                x.lets((drawn >>> 16) % (x.status(0) - 1));
                lettings++;
            }
            x.serve(1);
        }
        x.seed(drawn);
        return lettings;
    }

    private static void promise55Day() {
        int[] seeds = {1, 0, -1, 12345, Integer.MIN_VALUE};
        for (int seed : seeds) {
            for (int people = 1; people <= 16; people += 5) {
                BackByTwice x = Due.shopOf("people " + people + "; law 1 0");
                BackByTwice y = Due.shopOf("people " + people + "; law 1 0");
                x.seed(seed);
                int due = dayByCalls(y, seed, 40);
                DUE.answered("day(40) of " + people, x, () -> x.day(40), due);
                DUE.is("SEED behind a day", x.status(7), y.status(7));
                DUE.is("TURNS behind a day", x.status(3), 40);
                for (int place = 0; place < people; place++) {
                    DUE.is("the row behind a day", x.at(place), y.at(place));
                    DUE.is("COUNT behind a day", x.personOf(place, 1), y.personOf(place, 1));
                    DUE.is("LAST behind a day", x.personOf(place, 2), y.personOf(place, 2));
                }
            }
        }
    }

    private static void promise55DayOfOneAlone() {
        BackByTwice x = Due.shopOf("people 1; law 0 0");
        DUE.answered("day of one alone", x, () -> x.day(99), 0);
        int seed = 1;
        for (int draw = 0; draw < 99; draw++) {
            seed = seed * 1103515245 + 12345;
        }
        DUE.is("one DRAW ahead of each TURN", x.status(7), seed);
        DUE.is("TURNS", x.status(3), 99);
        // 1103527590 is the first SEED: its upper bits are 16838, 3 modulo 5.
        BackByTwice y = Due.shopOf("people 3; law 5 0");
        DUE.answered("day(1)", y, () -> y.day(1), 0);
        DUE.is("SEED", y.status(7), 1103527590);
    }

    private static void promise55DayRefused() {
        BackByTwice x = Due.shopOf("people 3; law 5 0");
        DUE.refused("day(0)", x, () -> x.day(0), -2);
        DUE.refused("day(100)", x, () -> x.day(100), -2);
        DUE.is("SEED behind what was refused", x.status(7), 1);
        BackByTwice lawless = Due.shopOf("people 3");
        DUE.refused("day without laws", lawless, () -> lawless.day(1), -5);
        DUE.refused("day, bad ahead of stuck", lawless, () -> lawless.day(0), -2);
        BackByTwice nobody = Due.shopOf("law 5 0");
        DUE.refused("day of nobody", nobody, () -> nobody.day(1), -5);
        DUE.is("SEED behind what was refused", nobody.status(7), 1);
    }

    private static void promise56Anew() {
        BackByTwice x = Due.shopOf("people 4; law 5 0; law 1 0; use 1; serve 5; count 3 9");
        DUE.answered("anew", x, x::anew, 5);
        DUE.is("TURNS", x.status(3), 0);
        DUE.is("all COUNTS", x.status(4), 0);
        DUE.is("the greatest LAST", x.status(5), 1);
        DUE.is("the row is as it was", Due.digits(x), 90213);
        DUE.is("in force as it was", x.status(2), 1);
        for (int person = 0; person < 4; person++) {
            DUE.is("COUNT", x.personOf(person, 1), 0);
            DUE.is("LAST", x.personOf(person, 2), 1);
        }
        DUE.answered("anew at once again", x, x::anew, 0);
    }

    private static void promise57Seed() {
        BackByTwice x = new BackByTwice();
        int[] seeds = {5, -1, Integer.MIN_VALUE, Integer.MAX_VALUE, 0};
        int ahead = 1;
        for (int seed : seeds) {
            DUE.answered("seed(" + seed + ")", x, () -> x.seed(seed), ahead);
            DUE.is("SEED", x.status(7), seed);
            ahead = seed;
        }
    }

    private static void promise58And59ImageAndBack() {
        BackByTwice x = Due.shopOf("people 4; law 5 0; law 1 2; use 1; serve 5; count 3 9");
        x.tell(2, 1, 44);
        x.seed(77);
        DUE.refused("back, nothing kept", x, x::back, -5);
        DUE.answered("image", x, x::image, 1);
        x.comes();
        x.law(0, 3);
        x.use(0);
        x.serve(3);
        x.day(2);
        x.anew();
        DUE.answered("back", x, x::back, 1);
        DUE.is("the row", Due.digits(x), 90213);
        int[] status = {4, 2, 1, 5, 2 + 2 + 1 + 9, 44, 0, 77};
        for (int what = 0; what < status.length; what++) {
            DUE.is("status(" + what + ") again", x.status(what), status[what]);
        }
        DUE.is("COUNT again", x.personOf(3, 1), 9);
        DUE.is("LAST again", x.personOf(0, 2), 4);
        DUE.is("KIND again", x.lawOf(1, 0), 1);
        DUE.is("a again", x.lawOf(1, 1), 2);
        DUE.is("law behind what was taken back", x.law(4, 5), 2);
        x.leaves();
        x.serve(9);
        DUE.answered("back once more", x, x::back, 1);
        DUE.is("the row once more", Due.digits(x), 90213);
        DUE.is("laws once more", x.status(1), 2);
        x.leaves();
        DUE.answered("another image", x, x::image, 1);
        x.comes();
        DUE.answered("back", x, x::back, 1);
        DUE.is("people of the other image", x.status(0), 3);
    }

    private static void promise58WithoutTapeShelvesRefusals() {
        BackByTwice x = Due.shopOf("people 2; law 5 0");
        Due.rowOf(x, 0, 0, 1, 2);
        x.row(1, 2, 3);
        x.show(2, 0);
        Due.feed(x, "let 0");
        x.at(9);
        x.image();
        x.set(0, 0, 7);
        x.show(1, 0);
        x.show(2, -1);
        Due.feed(x, "; let 0");
        x.at(9);
        x.law(5, 16);
        x.longest();
        DUE.answered("back", x, x::back, 1);
        DUE.is("element as it is", x.element(0, 0), 7);
        DUE.is("shelf 1 as it is", x.holds(1), 10);
        DUE.is("shelf 2 as it is", x.holds(2), -1);
        DUE.is("the tape as it is", x.status(6), 12);
        DUE.is("refusals as they are", x.status(12), 3);
        DUE.is("shop", x.shop(), 2);
    }

    private static void promise59ShelvesWithLaws() {
        BackByTwice x = Due.shopOf("people 2; law 5 0; law 0 1");
        x.image();
        x.law(1, 0);
        x.law(2, 0);
        int[] laws = {3, 0, 1, 2};
        for (int s = 0; s < 4; s++) {
            x.show(s, laws[s]);
        }
        x.row(4, 1, 2);
        x.show(7, 3);
        DUE.answered("back", x, x::back, 1);
        int[] due = {-1, 10, 11, -1, 1, -1, -1, -1};
        for (int s = 0; s < due.length; s++) {
            DUE.is("holds(" + s + ")", x.holds(s), due[s]);
        }
        DUE.is("shelves that hold something", x.status(8), 3);
        x.law(4, 4);
        DUE.is("what holds nothing doesn't hold the next law", x.holds(3), -1);
    }

    private static void promise60Status() {
        BackByTwice x = Due.shopOf("people 3; law 5 0; law 1 0; use 1; serve 4; count 2 70");
        // DOUBLE: 102 012 120 201, COUNTS 2 2, LASTS 4 4.
        x.seed(-9);
        x.row(0, 0, 0);
        x.show(7, 1);
        Due.feed(x, "use");
        int[] due = {3, 2, 1, 4, 74, 4, 3, -9, 2};
        for (int what = 0; what < due.length; what++) {
            DUE.is("status(" + what + ")", x.status(what), due[what]);
        }
        for (int what : new int[] {-1, 9, 10, 11, 17, 18, Integer.MIN_VALUE, Integer.MAX_VALUE}) {
            DUE.answered("status(" + what + ")", x, () -> x.status(what), -1);
        }
        x.tell(1, 1, 50);
        DUE.is("the greatest LAST", x.status(5), 50);
        x.leaves();
        x.leaves();
        DUE.is("the greatest LAST of those who are left", x.status(5), 4);
        x.leaves();
        DUE.is("the greatest LAST of nobody", x.status(5), 0);
        DUE.is("all COUNTS of nobody", x.status(4), 0);
    }

    private static void promise60Refusals() {
        BackByTwice x = Due.shopOf("people 1; law 5 0");
        x.show(0, 0);
        for (int i = 0; i < 5; i++) {
            x.at(1);
        }
        for (int i = 0; i < 4; i++) {
            x.set(0, 0, 0);
        }
        for (int i = 0; i < 3; i++) {
            x.set(1, 0, 0);
        }
        for (int i = 0; i < 2; i++) {
            x.lets(0);
        }
        Due.feed(x, "people 15");
        x.shop();
        x.comes();
        Due.feed(x, "people 1");
        x.shop();
        DUE.is("BAD", x.status(12), 6);
        DUE.is("OTHER", x.status(13), 4);
        DUE.is("NOTHING", x.status(14), 3);
        DUE.is("STUCK", x.status(15), 2);
        DUE.is("FULL", x.status(16), 1);
    }
}
