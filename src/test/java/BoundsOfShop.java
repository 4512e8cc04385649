/** The boundary cases of PEOPLE, LAWS and THE TAPE: promises 9 to 18. */
final class BoundsOfShop extends Bounds {
    BoundsOfShop(Document document) {
        super(document);
    }

    @Override
    void all() {
        promise9Comes();
        promise10Law();
        promise11Use();
        promise12Tell();
        promise13Feed();
        promise14Wipe();
        promise15Shop();
        promise16PersonOf();
        promise17LawOf();
        promise18At();
    }

    private void promise9Comes() {
        in("Promise 9:");
        hold("One more at the end: the number.", () -> {
            is("the row", Due.digits(done("comes", Bounds::nothing, BackByTwice::comes, 0)), 90);
            is("the row", Due.digits(done("comes", Bounds::usual, BackByTwice::comes, 5)), 9342015);
            done("comes, the last there's room for", of("people 15"), BackByTwice::comes, 15);
        });
        hold("FULL", () -> refused("comes", Bounds::full, BackByTwice::comes, FULL));
    }

    private void promise10Law() {
        in("Promise 10:");
        hold("A LAW: the number.", () -> {
            done("law(kind, 0)", Bounds::usual, edges(0, 5), (x, kind) -> x.law(kind, 0), 3);
            done("law(0, a)", Bounds::usual, edges(0, 15), (x, a) -> x.law(0, a), 3);
            done("law, the first", Bounds::lawless, x -> x.law(0, 0), 0);
            done("law, the last", of("law 0 0; law 0 0; law 0 0; law 0 0; law 0 0"),
                x -> x.law(0, 0), 5);
        });
        hold("BAD", () -> {
            refused("law(kind, 0)", Bounds::usual, outside(0, 5), (x, kind) -> x.law(kind, 0), BAD);
            refused("law(0, a)", Bounds::usual, outside(0, 15), (x, a) -> x.law(0, a), BAD);
        });
        hold("FULL", () -> refused("law", Bounds::full, x -> x.law(0, 0), FULL));
        hold("BAD; FULL.", () -> {
            refused("BAD ahead of FULL", Bounds::full, outside(0, 5), (x, v) -> x.law(v, 0), BAD);
            refused("BAD ahead of FULL", Bounds::full, outside(0, 15), (x, a) -> x.law(0, a), BAD);
        });
    }

    private void promise11Use() {
        in("Promise 11:");
        hold("A LAW is IN FORCE: which was ahead.", () -> {
            done("use(0)", Bounds::nobody, x -> x.use(0), 0);
            is("in force", done("use(2)", Bounds::usual, x -> x.use(2), 1).status(2), 2);
            done("use, the last ahead", Bounds::usual, x -> 10 * x.use(2) + x.use(0), 12);
        });
        hold("BAD", () -> {
            refused("use(law)", Bounds::usual, outside(0, 2), BackByTwice::use, BAD);
            refused("use(0) without LAWS", Bounds::lawless, x -> x.use(0), BAD);
            refused("use(law)", Bounds::full, outside(0, 5), BackByTwice::use, BAD);
        });
    }

    private void promise12Tell() {
        in("Promise 12:");
        hold("COUNT (what 0; 0 to 999)", () -> {
            done("tell(3, 0, v)", Bounds::usual, edges(0, 999), (x, v) -> x.tell(3, 0, v), 7);
            for (int v : edges(0, 999)) {
                BackByTwice x = done("tell(3, 0, " + v + ")", Bounds::usual, y -> y.tell(3, 0, v), 7);
                is("COUNT", x.personOf(3, 1), v);
                is("LAST", x.personOf(3, 2), 2);
            }
            refused("tell(3, 0, v)", Bounds::usual, outside(0, 999), (x, v) -> x.tell(3, 0, v), BAD);
        });
        hold("LAST (1; 1 to 99)", () -> {
            for (int v : edges(1, 99)) {
                BackByTwice x = done("tell(3, 1, " + v + ")", Bounds::usual, y -> y.tell(3, 1, v), 2);
                is("COUNT", x.personOf(3, 1), 7);
                is("LAST", x.personOf(3, 2), v);
            }
            refused("tell(3, 1, v)", Bounds::usual, outside(1, 99), (x, v) -> x.tell(3, 1, v), BAD);
        });
        hold("BAD", () -> {
            refused("tell(person, 0, 1)", Bounds::usual, outside(0, 4), (x, p) -> x.tell(p, 0, 1), BAD);
            refused("tell(0, what, 1)", Bounds::usual, outside(0, 1), (x, w) -> x.tell(0, w, 1), BAD);
            refused("tell of nobody", Bounds::nobody, x -> x.tell(0, 0, 1), BAD);
        });
    }

    private void promise13Feed() {
        in("Promise 13:");
        hold("one byte (0 to 255)", () -> {
            done("feed(letter)", Bounds::usual, edges(0, 255), BackByTwice::feed, 6);
            refused("feed(letter)", Bounds::usual, outside(0, 255), BackByTwice::feed, BAD);
        });
        hold("BAD", () -> refused("feed(letter)", Bounds::nothing, outside(0, 255), BackByTwice::feed,
            BAD));
        hold("FULL", () -> {
            done("feed, the last", BoundsOfShop::allButOne, x -> x.feed(32), 250);
            refused("feed", BoundsOfShop::fullTape, x -> x.feed(32), FULL);
        });
        hold("BAD; FULL.", () -> refused("BAD ahead of FULL", BoundsOfShop::fullTape, outside(0, 255),
            BackByTwice::feed, BAD));
    }

    private static BackByTwice allButOne() {
        BackByTwice x = new BackByTwice();
        Due.feed(x, "people 2" + " ".repeat(241));
        return x;
    }

    private static BackByTwice fullTape() {
        BackByTwice x = allButOne();
        x.feed(32);
        return x;
    }

    private void promise14Wipe() {
        in("Promise 14:");
        hold("THE TAPE is empty: its size ahead.", () -> {
            done("wipe of an empty one", Bounds::nothing, BackByTwice::wipe, 0);
            BackByTwice x = done("wipe of a full one", BoundsOfShop::fullTape, BackByTwice::wipe, 250);
            is("size", x.status(6), 0);
            is("shop", x.shop(), -20);
            is("people", x.status(0), 0);
            is("feed", x.feed(32), 1);
            done("wipe", Bounds::usual, BackByTwice::wipe, 5);
        });
    }

    private void promise15Shop() {
        in("Promise 15:");
        hold("THE TAPE is a SHOP: how many STATEMENTS", () -> {
            reads(Bounds::usual, "serve 1", 1);
            reads(Bounds::usual, "serve 1;serve 1;serve 1", 3);
            done("shop", Bounds::usual, BackByTwice::shop, 1);
        });
        hold("-20 less the FAULT (that is refused, too: BAD)", () -> {
            fault(Bounds::usual, "", 0);
            fault(Bounds::usual, "use 3", 4);
            fault(Bounds::nothing, " ".repeat(249) + "x", 249);
            fault(Bounds::nothing, " ".repeat(250), 250);
        });
        hold("THE TAPE is empty then, either way.", () -> {
            BackByTwice x = Bounds.usual();
            is("shop", x.shop(), 1);
            is("size behind a SHOP", x.status(6), 0);
            is("shop of an empty one", x.shop(), -20);
            Due.feed(x, "use 9");
            is("shop with a FAULT", x.shop(), -24);
            is("size behind a FAULT", x.status(6), 0);
            is("feed", x.feed(32), 1);
        });
    }

    private void promise16PersonOf() {
        in("Promise 16:");
        hold("PLACE (0), COUNT (1), LAST (2)", () -> {
            int[][] due = {{3, 1, 3}, {4, 1, 5}, {2, 2, 4}, {0, 7, 2}, {1, 0, 6}};
            for (int person = 0; person < 5; person++) {
                for (int what = 0; what < 3; what++) {
                    int p = person;
                    int w = what;
                    thought("personOf(" + p + ", " + w + ")", Bounds::usual, x -> x.personOf(p, w),
                        due[p][w]);
                }
            }
        });
        hold("BAD", () -> {
            refused("personOf(person, 0)", Bounds::usual, outside(0, 4), (x, p) -> x.personOf(p, 0), BAD);
            refused("personOf(0, what)", Bounds::usual, outside(0, 2), (x, w) -> x.personOf(0, w), BAD);
            refused("personOf(person, 1)", Bounds::full, outside(0, 15), (x, p) -> x.personOf(p, 1), BAD);
            refused("personOf of nobody", Bounds::nobody, x -> x.personOf(0, 2), BAD);
        });
    }

    private void promise17LawOf() {
        in("Promise 17:");
        hold("KIND (0), a (1)", () -> {
            thought("KIND of the first", Bounds::usual, x -> x.lawOf(0, 0), 5);
            thought("a of the first", Bounds::usual, x -> x.lawOf(0, 1), 3);
            thought("KIND of the last", Bounds::usual, x -> x.lawOf(2, 0), 0);
            thought("a of the last", Bounds::usual, x -> x.lawOf(2, 1), 2);
        });
        hold("BAD", () -> {
            refused("lawOf(law, 0)", Bounds::usual, outside(0, 2), (x, law) -> x.lawOf(law, 0), BAD);
            refused("lawOf(0, what)", Bounds::usual, outside(0, 1), (x, what) -> x.lawOf(0, what), BAD);
            refused("lawOf(law, 1)", Bounds::full, outside(0, 5), (x, law) -> x.lawOf(law, 1), BAD);
            refused("lawOf without LAWS", Bounds::lawless, x -> x.lawOf(0, 0), BAD);
        });
    }

    private void promise18At() {
        in("Promise 18:");
        hold("Who stands at a PLACE.", () -> {
            thought("at(0)", Bounds::usual, x -> x.at(0), 3);
            thought("at(4)", Bounds::usual, x -> x.at(4), 1);
            thought("at(15)", Bounds::full, x -> x.at(15), 15);
        });
        hold("BAD", () -> {
            refused("at(place)", Bounds::usual, outside(0, 4), BackByTwice::at, BAD);
            refused("at(place)", Bounds::full, outside(0, 15), BackByTwice::at, BAD);
            refused("at of nobody", Bounds::nobody, x -> x.at(0), BAD);
        });
    }
}
