import java.util.function.Supplier;

/** The boundary cases that "Terms" names: the shop, THE TAPE, a TURN. */
final class BoundsOfTerms extends Bounds {
    BoundsOfTerms(Document document) {
        super(document);
    }

    @Override
    void all() {
        in("What it is");
        calls();
        in("The public face");
        hold("public static final int NONE = -1;", () -> is("NONE", BackByTwice.NONE, -1));
        in("1. THE SHOP");
        people();
        laws();
        tape();
        statements();
        statementsOfWhatThereIs();
        faults();
        in("2. A TURN");
        turn();
        lastDoubled();
        laterTurns();
        in("REFUSALS");
        refusals();
        firstThatFits();
    }

    private void calls() {
        hold("An object is used for at most 512 calls after it has been made", () -> {
            BackByTwice x = new BackByTwice();
            x.comes();
            x.law(5, 0);
            for (int call = 3; call <= 511; call++) {
                x.serve(99);
            }
            is("the 512th call, status(3)", x.status(3), 509 * 99);
        });
    }

    private void people() {
        hold("PEOPLE have numbers, 0 on, 16 at most", () -> {
            BackByTwice x = new BackByTwice();
            for (int person = 0; person < 16; person++) {
                is("comes", x.comes(), person);
            }
            is("comes", x.comes(), FULL);
            is("people", x.status(0), 16);
            is("COUNT of 15", x.personOf(15, 1), 0);
            is("COUNT of 16", x.personOf(16, 1), BAD);
        });
        hold("and stand in a ROW, a PLACE each, 0 on (a new one at its end)", () -> {
            BackByTwice x = Due.shopOf("people 1; law 5 0");
            is("PLACE of the first", x.personOf(0, 0), 0);
            x.comes();
            x.serve(1);
            is("comes", x.comes(), 2);
            is("the row", Due.digits(x), 9102);
            x.serve(1);
            is("a shop of one more", Due.read(x, "people 2"), 1);
            is("the row", Due.digits(x), 902134);
        });
        hold("a COUNT (how often he has been served; 0 at first)", () -> {
            BackByTwice x = Due.shopOf("people 2; law 0 0; serve 9; let 0; serve 3");
            is("COUNT of 0", x.personOf(0, 1), 9);
            is("COUNT of 1", x.personOf(1, 1), 3);
            x.leaves();
            x.comes();
            is("COUNT of a new 1", x.personOf(1, 1), 0);
            x.tell(1, 0, 5);
            is("a shop", Due.read(x, "leave 1; people 1"), 2);
            is("COUNT of another new 1", x.personOf(1, 1), 0);
        });
        hold("a LAST (1 at first)", () -> {
            BackByTwice x = Due.shopOf("people 2");
            is("LAST of 0", x.personOf(0, 2), 1);
            x.tell(1, 1, 9);
            x.leaves();
            x.comes();
            is("LAST of a new 1", x.personOf(1, 2), 1);
            x.tell(1, 1, 9);
            is("a shop", Due.read(x, "leave 1; people 1"), 2);
            is("LAST of another new 1", x.personOf(1, 2), 1);
        });
    }

    private void laws() {
        hold("LAWS have numbers, 0 on, 6 at most", () -> {
            BackByTwice x = new BackByTwice();
            for (int law = 0; law < 6; law++) {
                is("law", x.law(5, law), law);
            }
            is("law", x.law(5, 6), FULL);
            is("laws", x.status(1), 6);
            is("a of 5", x.lawOf(5, 1), 5);
            is("a of 6", x.lawOf(6, 1), BAD);
        });
        hold("each of a KIND: 0 LAW; 1 DOUBLE, 2 OWN, 5 END, each under LAW; 3 HALF, under DOUBLE; "
            + "4 PLUS, under OWN", () -> {
                String[] kinds = {"0", "01", "02", "013", "024", "05"};
                for (int of = 0; of < 6; of++) {
                    BackByTwice x = Due.shopOf("people 3; law " + of + " 1");
                    x.show(0, 0);
                    for (int kind = 0; kind < 6; kind++) {
                        boolean isOther = x.says(0, kind) == OTHER;
                        is(of + " isn't under " + kind, isOther ? 1 : 0,
                            kinds[of].indexOf('0' + kind) < 0 ? 1 : 0);
                    }
                }
            });
        hold("a (0 to 15)", () -> {
            done("law(0, a)", Bounds::usual, edges(0, 15), (x, a) -> x.law(0, a), 3);
            refused("law(0, a)", Bounds::usual, outside(0, 15), (x, a) -> x.law(0, a), BAD);
        });
        hold("One of them is IN FORCE (0 at first; without LAWS nobody is served)", () -> {
            BackByTwice x = Due.shopOf("people 3; law 0 0; law 5 0");
            is("in force", x.status(2), 0);
            is("who's first behind a TURN", x.serve(1), 0);
            refused("serve(1)", Bounds::lawless, y -> y.serve(1), STUCK);
            refused("served(1)", Bounds::lawless, y -> y.served(1), STUCK);
        });
        hold("TURNS: how many there have been (0 at first)", () -> {
            BackByTwice x = Due.shopOf("people 3; law 0 0");
            is("TURNS", x.status(3), 0);
            x.serve(7);
            is("TURNS", x.status(3), 7);
        });
    }

    private void tape() {
        hold("A SHOP is read from THE TAPE (bytes, 250 at most)", () -> {
            BackByTwice x = new BackByTwice();
            is("feed of the least byte", x.feed(0), 1);
            is("feed of the greatest byte", x.feed(255), 2);
            x.wipe();
            String text = " ".repeat(242) + "people 3";
            for (int i = 0; i < text.length(); i++) {
                is("feed", x.feed(text.charAt(i)), i + 1);
            }
            is("feed behind 250", x.feed('3'), FULL);
            is("shop of 250 bytes", x.shop(), 1);
            is("people", x.status(0), 3);
        });
        hold("TOKENS, each as long as can be", () -> {
            is("people 11", reads(Bounds::nothing, "people11", 1).status(0), 11);
            is("a is 15", reads(Bounds::nothing, "law5 15", 1).lawOf(0, 1), 15);
            fault(Bounds::usual, "lawlaw 0 0", 0);
            fault(Bounds::usual, "lawz 0 0", 0);
            fault(Bounds::usual, "alaw 0 0", 0);
            fault(Bounds::usual, "la w 0 0", 0);
            fault(Bounds::usual, "zaw 0 0", 0);
            fault(Bounds::usual, "law 05", 6);
            fault(Bounds::usual, "law 51", 4);
            fault(Bounds::usual, "use 0serve 1", 5);
            fault(Bounds::usual, "use 0use", 5);
        });
        hold("WORDS (a .. z), NUMBERS (digits), the SIGN ;", () -> {
            is("people", reads(Bounds::nothing, "people 9;people 01", 2).status(0), 10);
            fault(Bounds::usual, "use0a", 4);
            fault(Bounds::usual, "use 10", 4);
            fault(Bounds::usual, "use 19", 4);
            for (char letter : new char[] {'a', 'z', '`', '{', '/', ':', ','}) {
                fault(Bounds::usual, "use " + letter, 4);
                boolean isOfWord = letter == 'a' || letter == 'z';
                fault(Bounds::usual, "use" + letter + "0", isOfWord ? 0 : 3);
            }
        });
        hold("blanks (32) may stand anywhere between", () -> {
            String[] texts = {"people 2;law 5 3;use 3", "people2;law5 3;use3",
                "  people  2  ;  law  5  3  ;  use  3  ", "people 2 ; law 5   3;use 3 "};
            for (String text : texts) {
                BackByTwice x = reads(Bounds::usual, text, 3);
                is("people", x.status(0), 7);
                is("in force", x.status(2), 3);
            }
            fault(Bounds::usual, "peo ple 2", 0);
            fault(Bounds::usual, "people 1 1", 9);
            for (int blank : new int[] {9, 10, 31, 33, 0, 160}) {
                fault(Bounds::usual, "use " + (char) blank + " 0", 4);
            }
        });
        hold("STATEMENTS, one or more, with ; between", () -> {
            reads(Bounds::usual, "use 0", 1);
            reads(Bounds::usual, "use 0;use 1", 2);
            reads(Bounds::nothing, "law 5 0" + ";use0".repeat(48), 49);
            fault(Bounds::usual, "", 0);
            fault(Bounds::usual, ";", 0);
            fault(Bounds::usual, ";use 0", 0);
            fault(Bounds::usual, "use 0;;use 1", 6);
            fault(Bounds::usual, "use 0;", 6);
            fault(Bounds::usual, "use 0 use 1", 6);
        });
    }

    private void statements() {
        hold("people N (1 to 16 more)", () -> {
            is("people", reads(Bounds::nothing, "people 1", 1).status(0), 1);
            is("people", reads(Bounds::nothing, "people 16", 1).status(0), 16);
            fault(Bounds::nothing, "people 0", 7);
            fault(Bounds::nothing, "people 17", 7);
        });
        hold("law K A", () -> {
            is("KIND", reads(Bounds::usual, "law 0 0", 1).lawOf(3, 0), 0);
            is("KIND", reads(Bounds::usual, "law 5 15", 1).lawOf(3, 0), 5);
            is("a", reads(Bounds::usual, "law 5 15", 1).lawOf(3, 1), 15);
            fault(Bounds::usual, "law 6 0", 4);
            fault(Bounds::usual, "law 0 16", 6);
        });
        hold("use L (it is IN FORCE)", () -> {
            is("in force", reads(Bounds::usual, "use 2", 1).status(2), 2);
            is("in force", reads(Bounds::usual, "use 2; use 0", 2).status(2), 0);
            fault(Bounds::usual, "use 3", 4);
            fault(Bounds::lawless, "use 0", 4);
        });
        hold("serve N (1 to 99 TURNS in truth; there must be PEOPLE and LAWS: N)", () -> {
            is("TURNS", reads(Bounds::usual, "serve 1", 1).status(3), 6);
            is("TURNS", reads(Bounds::usual, "serve 99", 1).status(3), 104);
            fault(Bounds::usual, "serve 0", 6);
            fault(Bounds::usual, "serve 100", 6);
            fault(Bounds::lawless, "serve 1", 6);
            fault(Bounds::nobody, "serve 1", 6);
            fault(Bounds::nothing, "serve 1", 6);
            is("TURNS", reads(Bounds::lawless, "law 0 0; serve 1", 2).status(3), 1);
            is("TURNS", reads(Bounds::nobody, "people 1; serve 1", 2).status(3), 1);
            fault(of("people 1; law 5 0"), "leave 0; serve 1", 15);
        });
        hold("let P (who stands at PLACE P lets the one behind go before: they change; "
            + "there must be one)", () -> {
                is("the row", Due.digits(reads(Bounds::usual, "let 0", 1)), 943201);
                is("the row", Due.digits(reads(Bounds::usual, "let 3", 1)), 934210);
                is("the row", Due.digits(reads(Bounds::usual, "let 2", 1)), 934021);
                fault(Bounds::usual, "let 4", 4);
                fault(Bounds::usual, "let 5", 4);
                fault(Bounds::nobody, "let 0", 4);
                fault(of("people 1"), "let 0", 4);
            });
    }

    private void statementsOfWhatThereIs() {
        hold("leave X (the last by number: X must be that)", () -> {
            is("the row", Due.digits(reads(Bounds::usual, "leave 4", 1)), 93201);
            is("the row", Due.digits(reads(Bounds::usual, "leave 4; leave 3", 2)), 9201);
            fault(Bounds::usual, "leave 3", 6);
            fault(Bounds::usual, "leave 5", 6);
            fault(Bounds::nobody, "leave 0", 6);
            is("people", reads(of("people 1"), "leave 0", 1).status(0), 0);
        });
        hold("count X N (COUNT becomes N, 0 to 999)", () -> {
            is("COUNT", reads(Bounds::usual, "count 3 0", 1).personOf(3, 1), 0);
            is("COUNT", reads(Bounds::usual, "count 4 999", 1).personOf(4, 1), 999);
            fault(Bounds::usual, "count 4 1000", 8);
            fault(Bounds::usual, "count 5 0", 6);
            fault(Bounds::nobody, "count 0 0", 6);
        });
        hold("All comes to what there is, or nothing.", () -> {
            BackByTwice x = reads(Bounds::usual, "people 1; law 4 1; use 3; serve 1; count 1 8", 5);
            is("the row", Due.digits(x), 9420153);
            is("laws", x.status(1), 4);
            is("TURNS", x.status(3), 6);
            is("all COUNTS", x.status(4), 1 + 8 + 2 + 8 + 0 + 0);
            fault(Bounds::usual, "people 1; law 4 1; use 3; serve 9; count 1 8; let 0; leave 5; let 4",
                66);
        });
    }

    private void faults() {
        hold("The FAULT: the place of the first byte of the first TOKEN that can't stand there", () -> {
            fault(Bounds::usual, "persons 1", 0);
            fault(Bounds::usual, "  persons 1; #", 2);
            fault(Bounds::usual, "7 people", 0);
            fault(Bounds::usual, "people law", 7);
            fault(Bounds::usual, "people ;", 7);
            fault(Bounds::usual, "law 0;0", 5);
            fault(Bounds::usual, "use 2 1", 6);
            fault(Bounds::usual, "use 9; people 0", 4);
        });
        hold("also a NUMBER that may not be", () -> {
            fault(Bounds::usual, "people 1; people 0", 17);
            fault(Bounds::usual, "law 5 16", 6);
            fault(Bounds::usual, "law 9 16", 4);
            fault(Bounds::usual, "use 4; #", 4);
            fault(Bounds::usual, "count 9 999", 6);
        });
        hold("or has more than 3 digits", () -> {
            is("people", reads(Bounds::nothing, "people 007", 1).status(0), 7);
            fault(Bounds::nothing, "people 0007", 7);
            is("in force", reads(Bounds::usual, "use 000", 1).status(2), 0);
            fault(Bounds::usual, "use 0000", 4);
            fault(Bounds::usual, "count 1 0999", 8);
            fault(Bounds::usual, "use 4294967296", 4);
            fault(Bounds::usual, "use 18446744073709551616", 4);
        });
        hold("more PEOPLE than there is room for: N", () -> {
            is("people", reads(Bounds::usual, "people 11", 1).status(0), 16);
            fault(Bounds::usual, "people 12", 7);
            fault(Bounds::usual, "people 11; people 1", 18);
            fault(Bounds::full, "people 1", 7);
            is("people", reads(Bounds::full, "leave 15; people 1", 2).status(0), 16);
        });
        hold("what there is no room for: its word", () -> {
            is("laws", reads(Bounds::usual, "law 0 0; law 0 0; law 0 0", 3).status(1), 6);
            fault(Bounds::usual, "law 0 0; law 0 0; law 0 0;  law 0 0", 28);
            fault(Bounds::full, "law 0 0", 0);
            fault(Bounds::full, "law 6 0", 0);
            fault(Bounds::full, "law", 0);
        });
        hold("a byte that begins none", () -> {
            for (int letter : new int[] {0, 31, '-', '/', ':', '<', '@', 'A', 'Z', '`', '{', 255}) {
                fault(Bounds::usual, "use 0" + (char) letter, 5);
                fault(Bounds::usual, (char) letter + "use 0", 0);
            }
            fault(Bounds::usual, "uSe 0", 0);
        });
        hold("THE TAPE's size, if it ends too early", () -> {
            String[] texts = {"", " ", "people", "people ", "law", "law 0", "law 0 ", "use", "serve",
                "let ", "leave", "count", "count 0", "use 0;", "use 0 ;  "};
            for (String text : texts) {
                fault(Bounds::usual, text, text.length());
            }
            fault(Bounds::nothing, " ".repeat(250), 250);
        });
    }

    /** Behind one TURN of six, the first having COUNT and LAST: his PLACE, LAST; COUNT is 1 more. */
    private void oneTurn(String law, int count, int last, int place, int lastThen) {
        BackByTwice x = Due.shopOf("people 6; law " + law);
        x.tell(0, 0, count);
        x.tell(0, 1, last);
        String what = " behind one TURN by " + law + ", COUNT " + count + ", LAST " + last;
        is("PLACE" + what, x.behind(1, 0, 0), place);
        is("COUNT" + what, x.behind(1, 0, 1), count + 1);
        is("LAST" + what, x.behind(1, 0, 2), lastThen);
        for (int other = 1; other < 6; other++) {
            is("PLACE of " + other + what, x.behind(1, other, 0), other <= place ? other - 1 : other);
            is("COUNT of " + other + what, x.behind(1, other, 1), 0);
            is("LAST of " + other + what, x.behind(1, other, 2), 1);
        }
    }

    private void turn() {
        hold("COUNT is 1 more, TURNS are 1 more", () -> {
            BackByTwice x = Due.shopOf("people 2; law 5 0; count 0 999");
            x.serve(1);
            is("COUNT behind 999", x.personOf(0, 1), 1000);
            is("COUNT of the other", x.personOf(1, 1), 0);
            is("TURNS", x.status(3), 1);
            for (int i = 0; i < 11; i++) {
                x.serve(99);
            }
            is("TURNS behind 999", x.status(3), 1090);
            is("COUNT", x.personOf(0, 1), 999 + 545);
        });
        hold("but behind all, if there are no more", () -> {
            oneTurn("0 4", 0, 1, 4, 1);
            oneTurn("0 5", 0, 1, 5, 1);
            oneTurn("0 6", 0, 1, 5, 1);
            oneTurn("0 15", 0, 1, 5, 1);
            oneTurn("1 0", 0, 6, 5, 12);
            oneTurn("2 0", 5, 1, 5, 1);
            oneTurn("2 0", 999, 1, 5, 1);
            oneTurn("3 0", 0, 99, 5, 1);
            oneTurn("4 15", 999, 1, 5, 1);
            for (int kind = 0; kind < 6; kind++) {
                BackByTwice x = Due.shopOf("people 1; law " + kind + " 9; serve 3");
                is("PLACE of one alone", x.personOf(0, 0), 0);
                is("COUNT of one alone", x.personOf(0, 1), 3);
            }
        });
        hold("LAW: a.", () -> {
            oneTurn("0 0", 3, 9, 0, 9);
            oneTurn("0 1", 3, 9, 1, 9);
            oneTurn("0 2", 3, 9, 2, 9);
        });
    }

    private void lastDoubled() {
        hold("DOUBLE: his LAST; his LAST is doubled then (99 at most)", () -> {
            oneTurn("1 7", 3, 1, 1, 2);
            oneTurn("1 7", 3, 4, 4, 8);
            oneTurn("1 7", 3, 49, 5, 98);
            oneTurn("1 7", 3, 50, 5, 99);
            oneTurn("1 7", 3, 98, 5, 99);
            oneTurn("1 7", 3, 99, 5, 99);
        });
        hold("HALF: likewise, but if his LAST is as many as there are others, or more, it becomes 1",
            () -> {
                oneTurn("3 7", 3, 1, 1, 2);
                oneTurn("3 7", 3, 4, 4, 8);
                oneTurn("3 7", 3, 5, 5, 1);
                oneTurn("3 7", 3, 6, 5, 1);
                oneTurn("3 7", 3, 99, 5, 1);
                Supplier<BackByTwice> alone = of("people 1; law 3 0");
                is("LAST of one alone", alone.get().behind(1, 0, 2), 1);
                is("LAST of one alone", alone.get().behind(2, 0, 2), 1);
                BackByTwice two = Due.shopOf("people 2; law 3 0");
                is("LAST of one of two", two.behind(1, 0, 2), 1);
                BackByTwice three = Due.shopOf("people 3; law 3 0");
                is("LAST of one of three", three.behind(1, 0, 2), 2);
            });
    }

    private void laterTurns() {
        hold("OWN: his COUNT. PLUS: his COUNT and a. END: behind all.", () -> {
            oneTurn("2 9", 0, 9, 1, 9);
            oneTurn("2 9", 3, 9, 4, 9);
            oneTurn("2 9", 4, 9, 5, 9);
            oneTurn("4 0", 0, 9, 1, 9);
            oneTurn("4 1", 0, 9, 2, 9);
            oneTurn("4 3", 0, 9, 4, 9);
            oneTurn("4 4", 0, 9, 5, 9);
            oneTurn("4 2", 1, 9, 4, 9);
            oneTurn("4 15", 0, 9, 5, 9);
            oneTurn("5 0", 0, 9, 5, 9);
            oneTurn("5 3", 0, 1, 5, 1);
        });
    }

    private void refusals() {
        hold("the call answers the number; nothing changes but how many there were", () -> {
            refused("a BAD one", Bounds::usual, x -> x.serve(0), BAD);
            refused("an OTHER one", Bounds::usual, x -> x.set(6, 0, 1), OTHER);
            refused("a NOTHING one", Bounds::usual, x -> x.set(5, 0, 1), NOTHING);
            refused("a STUCK one", Bounds::usual, x -> x.lets(4), STUCK);
            refused("a FULL one", Bounds::full, BackByTwice::comes, FULL);
            BackByTwice x = Bounds.usual();
            for (int i = 0; i < 300; i++) {
                x.at(5);
            }
            is("how many there were", x.status(12), 301);
        });
        hold("-2 BAD a number that may not be, nothing of that number", () -> {
            refused("may not be", Bounds::usual, x -> x.law(6, 0), BAD);
            refused("nothing of that number", Bounds::usual, x -> x.use(3), BAD);
        });
        hold("-3 OTHER: a SHELF that holds another thing than is wanted", () -> {
            refused("a LAW, not a ROW", Bounds::usual, x -> x.set(6, 0, 1), OTHER);
            refused("a ROW, not a LAW", Bounds::usual, x -> x.says(0, 0), OTHER);
            refused("another ROW", Bounds::usual, x -> x.copy(0, 1, 0, 0, 1), OTHER);
            refused("another LAW", Bounds::usual, x -> x.says(6, 2), OTHER);
        });
        hold("-4 NOTHING: a SHELF that holds NOTHING", () -> {
            refused("no ROW", Bounds::usual, x -> x.judge(5, 0), NOTHING);
            refused("no LAW", Bounds::usual, x -> x.says(5, 0), NOTHING);
        });
        hold("-5 STUCK: it can't be as things stand", () -> {
            refused("without LAWS", Bounds::lawless, x -> x.serve(1), STUCK);
            refused("nobody", Bounds::nobody, BackByTwice::longest, STUCK);
            refused("nothing kept", Bounds::nothing, BackByTwice::back, STUCK);
        });
        hold("-6 FULL", () -> {
            refused("people", Bounds::full, BackByTwice::comes, FULL);
            refused("laws", Bounds::full, x -> x.law(0, 0), FULL);
            refused("one more", Bounds::full, BackByTwice::newcomer, FULL);
        });
    }

    private void firstThatFits() {
        hold("the first that fits as each line has them", () -> {
            refused("BAD ahead of OTHER", Bounds::usual, x -> x.judge(6, 41), BAD);
            refused("BAD ahead of NOTHING", Bounds::usual, x -> x.judge(5, 41), BAD);
            refused("OTHER ahead of NOTHING", Bounds::usual, x -> x.copy(5, 6, 0, 0, 1), OTHER);
            refused("OTHER ahead of a later BAD", Bounds::usual, x -> x.set(6, 40, 1), OTHER);
            refused("NOTHING ahead of a later BAD", Bounds::usual, x -> x.set(5, 40, 1), NOTHING);
            refused("BAD ahead of STUCK", Bounds::lawless, x -> x.serve(100), BAD);
            refused("NOTHING ahead of STUCK", Bounds::lawless, x -> x.judge(5, 0), NOTHING);
            refused("BAD ahead of FULL", Bounds::full, x -> x.law(6, 0), BAD);
            refused("STUCK ahead of FULL", of("people 16"), BackByTwice::newcomer, STUCK);
        });
    }
}
