/** Promises 9 to 18: people, laws, the tape and what there is. */
public final class ShopTest {
    private static final Due DUE = new Due("ShopTest");

    public static void main(String[] args) {
        promise9Comes();
        promise10Law();
        promise11Use();
        promise12Tell();
        promise13Feed();
        promise14Wipe();
        promise15ShopOfEveryStatement();
        promise15Tokens();
        promise15ReadStatementByStatement();
        promise15Faults();
        promise15EveryLetterOfEveryWord();
        promise15FaultsOfWhatThereIs();
        promise15AllOrNothing();
        promise15FullTape();
        promise16PersonOf();
        promise17LawOf();
        promise18At();
        DUE.end();
    }

    private static void promise9Comes() {
        BackByTwice x = new BackByTwice();
        for (int person = 0; person < 16; person++) {
            DUE.is("comes", x.comes(), person);
            DUE.is("stands at the end", x.at(person), person);
        }
        DUE.refused("comes, no room", x, x::comes, -6);
        DUE.is("people behind what was refused", x.status(0), 16);
        BackByTwice y = Due.shopOf("people 3; law 5 0; serve 5; leave 2");
        DUE.is("comes behind one who left", y.comes(), 2);
        DUE.is("PLACE of the new one", y.personOf(2, 0), 2);
        DUE.is("COUNT of the new one", y.personOf(2, 1), 0);
        DUE.is("LAST of the new one", y.personOf(2, 2), 1);
        y.tell(2, 1, 9);
        y.leaves();
        y.comes();
        DUE.is("LAST of another new one", y.personOf(2, 2), 1);
    }

    private static void promise10Law() {
        BackByTwice x = new BackByTwice();
        int[][] bad = {{-1, 0}, {6, 0}, {0, -1}, {0, 16}};
        for (int[] b : bad) {
            DUE.refused("law" + java.util.Arrays.toString(b), x, () -> x.law(b[0], b[1]), -2);
        }
        for (int kind = 0; kind < 6; kind++) {
            DUE.is("law", x.law(kind, 15 - kind), kind);
        }
        DUE.refused("law, no room", x, () -> x.law(0, 0), -6);
        DUE.refused("law, bad ahead of full", x, () -> x.law(6, 0), -2);
        DUE.refused("law, bad ahead of full", x, () -> x.law(0, 16), -2);
        for (int law = 0; law < 6; law++) {
            DUE.is("KIND", x.lawOf(law, 0), law);
            DUE.is("a", x.lawOf(law, 1), 15 - law);
        }
        DUE.is("law 0 is in force at first", x.status(2), 0);
    }

    private static void promise11Use() {
        BackByTwice x = Due.shopOf("people 3; law 0 0; law 5 0");
        DUE.answered("use", x, () -> x.use(1), 0);
        DUE.answered("use the same", x, () -> x.use(1), 1);
        DUE.is("who's first behind one", x.serve(1), 1);
        DUE.answered("use", x, () -> x.use(0), 1);
        DUE.is("who's first behind one", x.serve(1), 1);
        DUE.refused("use no law", x, () -> x.use(2), -2);
        DUE.refused("use no law", x, () -> x.use(-1), -2);
        DUE.is("in force behind what was refused", x.status(2), 0);
        BackByTwice y = new BackByTwice();
        DUE.refused("use without laws", y, () -> y.use(0), -2);
    }

    private static void promise12Tell() {
        BackByTwice x = Due.shopOf("people 2; count 1 6");
        DUE.answered("tell COUNT", x, () -> x.tell(1, 0, 999), 6);
        DUE.answered("tell COUNT", x, () -> x.tell(1, 0, 0), 999);
        DUE.answered("tell LAST", x, () -> x.tell(1, 1, 99), 1);
        DUE.answered("tell LAST", x, () -> x.tell(1, 1, 1), 99);
        x.tell(1, 0, 4);
        x.tell(1, 1, 5);
        DUE.is("COUNT", x.personOf(1, 1), 4);
        DUE.is("LAST", x.personOf(1, 2), 5);
        DUE.is("COUNT of the other", x.personOf(0, 1), 0);
        DUE.is("LAST of the other", x.personOf(0, 2), 1);
        int[][] bad = {{-1, 0, 0}, {2, 0, 0}, {0, -1, 1}, {0, 2, 1}, {1, 0, -1}, {1, 0, 1000},
            {1, 1, 0}, {1, 1, 100}, {1, 1, -1}};
        for (int[] b : bad) {
            DUE.refused("tell" + java.util.Arrays.toString(b), x, () -> x.tell(b[0], b[1], b[2]), -2);
        }
        DUE.is("COUNT behind what was refused", x.personOf(1, 1), 4);
        DUE.is("LAST behind what was refused", x.personOf(1, 2), 5);
    }

    private static void promise13Feed() {
        BackByTwice x = new BackByTwice();
        DUE.refused("feed", x, () -> x.feed(-1), -2);
        DUE.refused("feed", x, () -> x.feed(256), -2);
        DUE.answered("feed", x, () -> x.feed(0), 1);
        DUE.answered("feed", x, () -> x.feed(255), 2);
        for (int size = 3; size <= 250; size++) {
            DUE.is("feed", x.feed(32), size);
        }
        DUE.refused("feed, no room", x, () -> x.feed(32), -6);
        DUE.refused("feed, bad ahead of full", x, () -> x.feed(256), -2);
        DUE.is("size", x.status(6), 250);
    }

    private static void promise14Wipe() {
        BackByTwice x = new BackByTwice();
        Due.feed(x, "people 3");
        DUE.answered("wipe", x, x::wipe, 8);
        DUE.answered("wipe of an empty tape", x, x::wipe, 0);
        DUE.is("size", x.status(6), 0);
        DUE.is("people", x.status(0), 0);
        DUE.is("the next byte", x.feed('p'), 1);
        x.wipe();
        DUE.is("a shop from a wiped tape", Due.read(x, "people 3"), 1);
    }

    private static void promise15ShopOfEveryStatement() {
        BackByTwice x = new BackByTwice();
        Due.feed(x, "people 3; law 5 0; law 0 1; serve 2; use 1; serve 1; let 0; count 1 999");
        DUE.answered("shop", x, x::shop, 8);
        // END twice: 2 0 1; 2 goes behind one: 0 2 1; 0 lets 2 before: 2 0 1.
        DUE.is("the row", Due.digits(x), 9201);
        DUE.is("COUNT", x.personOf(0, 1), 1);
        DUE.is("COUNT told", x.personOf(1, 1), 999);
        DUE.is("COUNT", x.personOf(2, 1), 1);
        DUE.is("TURNS", x.status(3), 3);
        DUE.is("in force", x.status(2), 1);
        DUE.is("the tape is empty", x.status(6), 0);
        DUE.is("COUNT becomes 0", Due.read(x, "count 1 0"), 1);
        DUE.is("COUNT", x.personOf(1, 1), 0);
        DUE.is("leave", Due.read(x, "leave 2"), 1);
        DUE.is("the row behind it", Due.digits(x), 901);
        DUE.is("people come to what there is", Due.read(x, "people 14"), 1);
        DUE.is("people", x.status(0), 16);
        DUE.is("the last stands at the end", x.at(15), 15);
    }

    private static void promise15Tokens() {
        BackByTwice x = new BackByTwice();
        DUE.is("without blanks", Due.read(x, "people2;law0 3;use0;serve1"), 4);
        DUE.is("with many blanks", Due.read(x, "  people   1  ;   law  5   15   "), 2);
        DUE.is("three digits", Due.read(x, "people 001;law 000 015;count 003 099"), 3);
        DUE.is("COUNT", x.personOf(3, 1), 99);
        DUE.is("a of the law", x.lawOf(2, 1), 15);
        DUE.is("people", x.status(0), 4);
        DUE.is("99 TURNS", Due.read(x, "serve 99"), 1);
        DUE.is("TURNS", x.status(3), 100);
    }

    private static void promise15ReadStatementByStatement() {
        BackByTwice x = new BackByTwice();
        DUE.is("each behind the other",
            Due.read(x, "people 16; leave 15; people 1; law 0 0; use 0; law 1 0; use 1; let 14"), 8);
        DUE.is("the row's end", x.at(15), 14);
        DUE.is("one more law than before", Due.read(x, "law 0 1; law 0 2; law 0 3; law 5 4"), 4);
        DUE.is("laws", x.status(1), 6);
    }

    /** On a shop of 3 people and 2 laws each text has its fault at the place told. */
    private static void faulty(String text, int fault) {
        BackByTwice x = Due.shopOf("people 3; law 5 0; law 0 2; serve 4");
        Due.feed(x, text);
        DUE.refused("shop of \"" + text + "\"", x,
            () -> x.shop() == -20 - fault ? -2 : -1000 - fault, -2);
        DUE.is("the tape's size behind \"" + text + "\"", x.status(6), 0);
        DUE.is("people behind \"" + text + "\"", x.status(0), 3);
        DUE.is("laws behind \"" + text + "\"", x.status(1), 2);
        DUE.is("in force behind \"" + text + "\"", x.status(2), 0);
        DUE.is("TURNS behind \"" + text + "\"", x.status(3), 4);
        DUE.is("COUNTS behind \"" + text + "\"", x.status(4), 4);
        DUE.is("the row behind \"" + text + "\"", Due.digits(x), 9120);
    }

    private static void promise15Faults() {
        faulty("", 0);
        faulty("   ", 3);
        faulty("people", 6);
        faulty("people  ", 8);
        faulty("people 2;", 9);
        faulty("people 2; ", 10);
        faulty("law 0", 5);
        faulty("law", 3);
        faulty("use", 3);
        faulty("serve ", 6);
        faulty("let", 3);
        faulty("leave", 5);
        faulty("count", 5);
        faulty("count 1", 7);
        faulty(";people 2", 0);
        faulty("people 2;;people 2", 9);
        faulty("people;2", 6);
        faulty("2 people", 0);
        faulty("persons 2", 0);
        faulty("peopl 2", 0);
        faulty("peoplee 2", 0);
        faulty("people two", 7);
        faulty("people 2 people 2", 9);
        faulty("people 2 3", 9);
        faulty("people 2a", 8);
        faulty("law 0 0 0", 8);
        faulty("law 0;0", 5);
        faulty("count 1 use", 8);
        faulty("People 2", 0);
        faulty("people\t2", 6);
        faulty("people 2#", 8);
        faulty("people #", 7);
        faulty("people 2; \u00e9", 10);
        faulty("\0", 0);
        faulty("people -2", 7);
        faulty("people 0002", 7);
        faulty("law 0000 0", 4);
        faulty("count 0 0001", 8);
        faulty("people 99999999999", 7);
        faulty("people 0; #", 7);
        faulty("#; people 0", 0);
    }

    private static void promise15EveryLetterOfEveryWord() {
        String[] statements = {"people 1", "law 0 0", "use 0", "serve 1", "let 0", "leave 2",
            "count 1 0"};
        for (String right : statements) {
            BackByTwice x = Due.shopOf("people 3; law 5 0");
            DUE.is("shop of \"" + right + "\"", Due.read(x, right), 1);
            int word = right.indexOf(' ');
            for (int i = 0; i < word; i++) {
                for (char other : new char[] {'a', 'z', (char) (right.charAt(i) + 1)}) {
                    if (other != right.charAt(i)) {
                        String wrong = right.substring(0, i) + other + right.substring(i + 1);
                        DUE.is("shop of \"" + wrong + "\"", Due.read(x, wrong), -20);
                    }
                }
            }
            for (char more : new char[] {'a', 'z'}) {
                DUE.is("shop, a letter ahead", Due.read(x, more + right), -20);
                DUE.is("shop, a letter behind",
                    Due.read(x, right.substring(0, word) + more + right.substring(word)), -20);
            }
        }
    }

    private static void promise15FaultsOfWhatThereIs() {
        faulty("people 0", 7);
        faulty("people 14", 7);
        faulty("people 17", 7);
        faulty("people 13; people 1", 18);
        faulty("law 6 0", 4);
        faulty("law 0 16", 6);
        faulty("law 6 16", 4);
        faulty("law 0 0; law 0 0; law 0 0; law 0 0; law 0 0", 36);
        faulty("law 0 0; law 0 0; law 0 0; law 0 0; law 9", 36);
        faulty("law 0 0; law 0 0; law 0 0; law 0 0; law", 36);
        faulty("law 0 0; law 0 0; law 0 0; law 0 0; people", 42);
        faulty("use 2", 4);
        faulty("law 0 0; use 3", 13);
        faulty("serve 0", 6);
        faulty("serve 100", 6);
        faulty("leave 2; leave 1; leave 0; serve 1", 33);
        faulty("let 2", 4);
        faulty("let 3", 4);
        faulty("leave 2; leave 1; let 0", 22);
        faulty("leave 2; leave 1; leave 0; let 0", 31);
        faulty("leave 1", 6);
        faulty("leave 3", 6);
        faulty("leave 2; leave 1; leave 0; leave 0", 33);
        faulty("count 3 0", 6);
        faulty("count 2 1000", 8);
        faulty("leave 2; count 2 0", 15);
        BackByTwice x = new BackByTwice();
        DUE.is("serve without laws", Due.read(x, "people 1; serve 1"), -36);
        DUE.is("serve without people", Due.read(x, "law 0 0; serve 1"), -35);
        DUE.is("serve without either, ended too early", Due.read(x, "serve"), -25);
        DUE.is("use without laws", Due.read(x, "use 0"), -24);
        DUE.is("use without laws, ended too early", Due.read(x, "use "), -24);
        DUE.is("leave without people", Due.read(x, "leave 0"), -26);
        DUE.is("count without people", Due.read(x, "count 0 0"), -26);
        DUE.is("nothing has come", x.status(0) + x.status(1), 0);
    }

    private static void promise15AllOrNothing() {
        faulty("people 1; law 1 1; use 2; serve 9; let 0; count 0 77; leave 3; let 2", 67);
        faulty("serve 5; use 1; serve 7; count 2 50; leave 3", 43);
        BackByTwice x = Due.shopOf("people 2; law 5 0");
        DUE.is("a fault", Due.read(x, "people 1; pople 1"), -30);
        DUE.is("the next is read anew", Due.read(x, "people 1"), 1);
        DUE.is("people", x.status(0), 3);
    }

    private static void promise15FullTape() {
        BackByTwice x = Due.shopOf("people 2; law 5 0");
        StringBuilder text = new StringBuilder("serve 9");
        while (text.length() < 247) {
            text.append(";serve 9");
        }
        DUE.is("the text's size", text.length(), 247);
        DUE.is("a long shop", Due.read(x, text.toString()), 31);
        DUE.is("TURNS", x.status(3), 279);
        StringBuilder wrong = new StringBuilder();
        for (int i = 0; i < 83; i++) {
            wrong.append("  ;");
        }
        BackByTwice y = new BackByTwice();
        Due.feed(y, wrong + "a");
        DUE.is("a full tape", y.status(6), 250);
        DUE.is("a fault in a full tape", y.shop(), -22);
        BackByTwice z = new BackByTwice();
        Due.feed(z, " ".repeat(249) + "a");
        DUE.is("a fault in the last byte", z.shop(), -269);
        Due.feed(z, " ".repeat(244) + "people");
        DUE.is("a full tape ends too early", z.shop(), -270);
    }

    private static void promise16PersonOf() {
        BackByTwice x = Due.shopOf("people 3; law 1 0; serve 3");
        // DOUBLE: 1 0 2; 0 1 2; 1 2 0.
        int[][] due = {{2, 2, 4}, {0, 1, 2}, {1, 0, 1}};
        for (int person = 0; person < 3; person++) {
            for (int what = 0; what < 3; what++) {
                int p = person;
                int w = what;
                DUE.answered("personOf(" + p + ", " + w + ")", x, () -> x.personOf(p, w), due[p][w]);
            }
        }
        int[][] bad = {{-1, 0}, {3, 0}, {0, -1}, {0, 3}};
        for (int[] b : bad) {
            DUE.refused("personOf" + java.util.Arrays.toString(b), x, () -> x.personOf(b[0], b[1]), -2);
        }
    }

    private static void promise17LawOf() {
        BackByTwice x = Due.shopOf("law 3 9; law 0 15");
        DUE.answered("lawOf", x, () -> x.lawOf(0, 0), 3);
        DUE.answered("lawOf", x, () -> x.lawOf(0, 1), 9);
        DUE.answered("lawOf", x, () -> x.lawOf(1, 0), 0);
        DUE.answered("lawOf", x, () -> x.lawOf(1, 1), 15);
        int[][] bad = {{-1, 0}, {2, 0}, {0, -1}, {0, 2}};
        for (int[] b : bad) {
            DUE.refused("lawOf" + java.util.Arrays.toString(b), x, () -> x.lawOf(b[0], b[1]), -2);
        }
    }

    private static void promise18At() {
        BackByTwice x = Due.shopOf("people 3; let 0");
        DUE.answered("at", x, () -> x.at(0), 1);
        DUE.answered("at", x, () -> x.at(1), 0);
        DUE.answered("at", x, () -> x.at(2), 2);
        DUE.refused("at", x, () -> x.at(3), -2);
        DUE.refused("at", x, () -> x.at(-1), -2);
        BackByTwice y = new BackByTwice();
        DUE.refused("at of nobody", y, () -> y.at(0), -2);
    }
}
