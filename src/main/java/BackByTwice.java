import java.util.Arrays;

/** People in a row in a shop: the first is served and goes back by a law (see ../shared/DOC.md). */
public final class BackByTwice {
    public static final int NONE = -1;

    private static final int FINE = 0;
    private static final int BAD = -2;
    private static final int OTHER = -3;
    private static final int NOTHING = -4;
    private static final int STUCK = -5;
    private static final int FULL = -6;
    private static final int REFUSALS = 5;
    private static final int FAULT = -20;

    private static final int MOST_PEOPLE = 16;
    private static final int MOST_COUNT = 999;
    private static final int MOST_LAST = 99;

    private static final int LAW = 0;
    private static final int DOUBLE = 1;
    private static final int OWN = 2;
    private static final int HALF = 3;
    private static final int PLUS = 4;
    private static final int END = 5;
    private static final int MOST_LAWS = 6;
    private static final int MOST_A = 15;

    private static final int MOST_IN_THOUGHT = 999;
    private static final int MOST_IN_TRUTH = 99;
    private static final int MOST_TIMES = 99;

    private static final int MOST_BYTES = 250;
    private static final int MOST_DIGITS = 3;

    private static final int BYTES = 0;
    private static final int SHORTS = 1;
    private static final int INTS = 2;
    private static final int BOOLEANS = 4;
    private static final int MOST_SHELVES = 8;
    private static final int MOST_ELEMENTS = 40;
    private static final int SHOWN_LAW = 10;

    private static final int FEWEST_CARDS = 2;
    private static final int MOST_CARDS = 52;

    private final Shop truth;
    private final Shop kept;
    private final Shop thought;
    private final Shop otherThought;
    private final Tape tape;
    private final Shelf[] shelves;
    private final int[] pack;
    private final int[] refusals;
    private boolean isKept;

    public BackByTwice() {
        truth = new Shop();
        kept = new Shop();
        thought = new Shop();
        otherThought = new Shop();
        tape = new Tape();
        shelves = new Shelf[MOST_SHELVES];
        for (int s = 0; s < MOST_SHELVES; s++) {
            shelves[s] = new Shelf();
        }
        pack = new int[MOST_CARDS];
        refusals = new int[REFUSALS];
    }

    // The shelves

    public int row(int s, int sort, int n) {
        if (!isShelf(s) || !isBetween(sort, BYTES, BOOLEANS) || !isBetween(n, 0, MOST_ELEMENTS)) {
            return refuse(BAD);
        }
        shelves[s].holdRow(sort, n);
        return 1;
    }

    public int set(int s, int i, long v) {
        if (!isShelf(s)) {
            return refuse(BAD);
        }
        int refusal = shelves[s].refusalOfRow();
        if (refusal != FINE) {
            return refuse(refusal);
        }
        if (!shelves[s].hasPart(i, 1)) {
            return refuse(BAD);
        }
        shelves[s].put(i, v);
        return 1;
    }

    public int copy(int p, int q, int i, int j, int n) {
        if (!isShelf(p) || !isShelf(q)) {
            return refuse(BAD);
        }
        Shelf from = shelves[p];
        Shelf to = shelves[q];
        if (from.holdsLaw() || to.holdsLaw() || from.isOtherRowThan(to)) {
            return refuse(OTHER);
        }
        if (!from.holdsRow() || !to.holdsRow()) {
            return refuse(NOTHING);
        }
        if (!from.hasPart(i, n) || !to.hasPart(j, n)) {
            return refuse(BAD);
        }
        System.arraycopy(from.elements, i, to.elements, j, n);
        return n;
    }

    public long element(int s, int i) {
        return isShelf(s) ? shelves[s].elementAt(i) : 0;
    }

    public int holds(int s) {
        return isShelf(s) ? shelves[s].content() : NONE;
    }

    public int show(int s, int law) {
        if (!isShelf(s) || law != NONE && !truth.hasLaw(law)) {
            return refuse(BAD);
        }
        shelves[s].holdLaw(law);
        return 1;
    }

    public int says(int s, int kind) {
        if (!isShelf(s) || !isKind(kind)) {
            return refuse(BAD);
        }
        Shelf shelf = shelves[s];
        if (shelf.holdsRow() || shelf.holdsLaw() && !isUnder(truth.kindOf(shelf.law), kind)) {
            return refuse(OTHER);
        }
        if (!shelf.holdsLaw()) {
            return refuse(NOTHING);
        }
        if (kind == LAW) {
            return truth.amountOf(shelf.law);
        }
        return kind == HALF ? truth.lastThen(shelf.law) : truth.stepsBack(shelf.law);
    }

    // People, laws and the tape

    public int comes() {
        return truth.hasRoom() ? truth.add() : refuse(FULL);
    }

    public int law(int kind, int a) {
        if (!isKind(kind) || !isBetween(a, 0, MOST_A)) {
            return refuse(BAD);
        }
        return truth.hasRoomForLaw() ? truth.addLaw(kind, a) : refuse(FULL);
    }

    public int use(int law) {
        if (!truth.hasLaw(law)) {
            return refuse(BAD);
        }
        int ahead = truth.force;
        truth.force = law;
        return ahead;
    }

    public int tell(int person, int what, int v) {
        if (!truth.hasPerson(person)) {
            return refuse(BAD);
        }
        int was;
        if (what == 0 && isBetween(v, 0, MOST_COUNT)) {
            was = truth.counts[person];
            truth.counts[person] = v;
        } else if (what == 1 && isBetween(v, 1, MOST_LAST)) {
            was = truth.lasts[person];
            truth.lasts[person] = v;
        } else {
            was = refuse(BAD);
        }
        return was;
    }

    public int feed(int letter) {
        if (!isBetween(letter, 0, 255)) {
            return refuse(BAD);
        }
        return tape.add(letter) ? tape.size : refuse(FULL);
    }

    public int wipe() {
        int ahead = tape.size;
        tape.size = 0;
        return ahead;
    }

    public int shop() {
        thought.become(truth);
        int statements = tape.readInto(thought);
        tape.size = 0;
        if (statements == NONE) {
            refuse(BAD);
            return FAULT - tape.start;
        }
        truth.become(thought);
        return statements;
    }

    public int personOf(int person, int what) {
        if (!truth.hasPerson(person) || !isBetween(what, 0, 2)) {
            return refuse(BAD);
        }
        return truth.fact(person, what);
    }

    public int lawOf(int law, int what) {
        if (!truth.hasLaw(law) || !isBetween(what, 0, 1)) {
            return refuse(BAD);
        }
        return what == 0 ? truth.kindOf(law) : truth.amountOf(law);
    }

    public int at(int place) {
        return truth.hasPlace(place) ? truth.who(place) : refuse(BAD);
    }

    // In thought: the row, turn by turn

    public int stands(int n, int place) {
        if (!isBetween(n, 0, MOST_IN_THOUGHT) || !truth.hasPlace(place)) {
            return refuse(BAD);
        }
        if (truth.isLawless()) {
            return refuse(STUCK);
        }
        think(n);
        return thought.who(place);
    }

    public int behind(int n, int person, int what) {
        if (!isBetween(n, 0, MOST_IN_THOUGHT) || !truth.hasPerson(person) || !isBetween(what, 0, 2)) {
            return refuse(BAD);
        }
        if (truth.isLawless()) {
            return refuse(STUCK);
        }
        think(n);
        return thought.fact(person, what);
    }

    public int served(int n) {
        if (!isBetween(n, 1, MOST_IN_THOUGHT)) {
            return refuse(BAD);
        }
        if (truth.isStuck()) {
            return refuse(STUCK);
        }
        think(n - 1);
        return thought.who(0);
    }

    public int round() {
        if (truth.isStuck()) {
            return refuse(STUCK);
        }
        thought.become(truth);
        for (int n = 1; n <= MOST_IN_THOUGHT; n++) {
            thought.turn();
            if (thought.standsLike(truth)) {
                return n;
            }
        }
        return NONE;
    }

    public int when(int person, int k) {
        if (!truth.hasPerson(person) || !isBetween(k, 1, MOST_TIMES)) {
            return refuse(BAD);
        }
        if (truth.isLawless()) {
            return refuse(STUCK);
        }
        thought.become(truth);
        return turnOfServing(person, k, MOST_IN_THOUGHT);
    }

    public int never() {
        if (truth.isStuck()) {
            return refuse(STUCK);
        }
        return truth.allBits() & ~servedBits(MOST_IN_THOUGHT);
    }

    public int stand(int n) {
        if (!isBetween(n, 1, MOST_IN_THOUGHT)) {
            return refuse(BAD);
        }
        if (truth.isStuck()) {
            return refuse(STUCK);
        }
        think(n - 1);
        return truth.placeOf(thought.who(0));
    }

    public int leader(int n) {
        if (!isBetween(n, 0, MOST_IN_THOUGHT)) {
            return refuse(BAD);
        }
        if (truth.isStuck()) {
            return refuse(STUCK);
        }
        thought.become(truth);
        thought.startAnew();
        thought.turnTimes(n);
        return firstGreatest(thought.counts, thought.people);
    }

    public int waits(int person) {
        if (!truth.hasPerson(person)) {
            return refuse(BAD);
        }
        if (truth.isLawless()) {
            return refuse(STUCK);
        }
        thought.become(truth);
        int most = NONE;
        int last = 0;
        for (int n = 1; n <= MOST_IN_THOUGHT; n++) {
            if (thought.turn() == person) {
                most = Math.max(most, n - last);
                last = n;
            }
        }
        return most;
    }

    public int several(int n) {
        if (!isBetween(n, 0, MOST_IN_THOUGHT)) {
            return refuse(BAD);
        }
        if (truth.isStuck()) {
            return refuse(STUCK);
        }
        return Integer.bitCount(servedBits(n));
    }

    public int beside(int person, int other) {
        if (!truth.hasPerson(person) || !truth.hasPerson(other) || person == other) {
            return refuse(BAD);
        }
        if (truth.isLawless()) {
            return refuse(STUCK);
        }
        thought.become(truth);
        for (int n = 0; n <= MOST_IN_THOUGHT; n++) {
            if (Math.abs(thought.placeOf(person) - thought.placeOf(other)) == 1) {
                return n;
            }
            thought.turn();
        }
        return NONE;
    }

    public int unlike(int law, int other) {
        if (!truth.hasLaw(law) || !truth.hasLaw(other)) {
            return refuse(BAD);
        }
        if (truth.isEmpty()) {
            return refuse(STUCK);
        }
        thinkBy(law);
        otherThought.become(truth);
        otherThought.force = other;
        for (int n = 1; n <= MOST_IN_THOUGHT; n++) {
            if (thought.turn() != otherThought.turn()) {
                return n;
            }
        }
        return NONE;
    }

    public int lawFor(int person, int n) {
        if (!truth.hasPerson(person) || !isBetween(n, 0, MOST_IN_THOUGHT)) {
            return refuse(BAD);
        }
        if (truth.isLawless()) {
            return refuse(STUCK);
        }
        int best = NONE;
        int most = NONE;
        for (int law = 0; law < truth.laws; law++) {
            thinkBy(law);
            thought.turnTimes(n);
            if (thought.counts[person] > most) {
                most = thought.counts[person];
                best = law;
            }
        }
        return best;
    }

    public int newcomer() {
        if (truth.isLawless()) {
            return refuse(STUCK);
        }
        if (!truth.hasRoom()) {
            return refuse(FULL);
        }
        thought.become(truth);
        return turnOfServing(thought.add(), 1, MOST_IN_THOUGHT);
    }

    public int forward(int person, int k, int n) {
        if (!truth.hasPerson(person) || !isBetween(k, 1, MOST_TIMES)
                || !isBetween(n, 0, MOST_IN_THOUGHT)) {
            return refuse(BAD);
        }
        if (truth.isLawless()) {
            return refuse(STUCK);
        }
        int place = truth.placeOf(person);
        for (int ahead = 0; ahead <= place; ahead++) {
            thought.become(truth);
            thought.move(person, place - ahead);
            if (turnOfServing(person, k, n) != NONE) {
                return ahead;
            }
        }
        return NONE;
    }

    // In thought: which law is fair

    public int level(int law) {
        if (!truth.hasLaw(law)) {
            return refuse(BAD);
        }
        if (truth.isEmpty()) {
            return refuse(STUCK);
        }
        thinkBy(law);
        thought.startAnew();
        for (int n = 1; n <= MOST_IN_THOUGHT; n++) {
            thought.turn();
            if (thought.countsApart() == 0) {
                return n;
            }
        }
        return NONE;
    }

    public int spread(int law, int n) {
        if (!truth.hasLaw(law) || !isBetween(n, 0, MOST_IN_THOUGHT)) {
            return refuse(BAD);
        }
        return truth.isEmpty() ? refuse(STUCK) : spreadBy(law, n);
    }

    public int fairest(int n) {
        if (!isBetween(n, 0, MOST_IN_THOUGHT)) {
            return refuse(BAD);
        }
        if (truth.isStuck()) {
            return refuse(STUCK);
        }
        int best = 0;
        int least = spreadBy(0, n);
        for (int law = 1; law < truth.laws; law++) {
            int apart = spreadBy(law, n);
            if (apart < least) {
                least = apart;
                best = law;
            }
        }
        return best;
    }

    // Told slates

    public int judge(int s, int n) {
        int refusal = refusalOfSlate(s, n);
        if (refusal != FINE) {
            return refuse(refusal);
        }
        thought.become(truth);
        return firstWrong(shelves[s], n);
    }

    public int fits(int s, int n) {
        int refusal = refusalOfSlate(s, n);
        if (refusal != FINE) {
            return refuse(refusal);
        }
        int bits = 0;
        for (int law = 0; law < truth.laws; law++) {
            thinkBy(law);
            if (firstWrong(shelves[s], n) == NONE) {
                bits |= 1 << law;
            }
        }
        return bits;
    }

    public int pushed(int s, int n) {
        int refusal = refusalOfSlate(s, n);
        if (refusal != FINE) {
            return refuse(refusal);
        }
        thought.become(truth);
        return firstWrong(shelves[s], n) == NONE ? NONE : firstPush(shelves[s], n);
    }

    // Packs of cards

    public int again(int n, boolean in) {
        return isPack(n) ? timesAgain(n, in) : refuse(BAD);
    }

    public int lies(int n, boolean in, int place, int k) {
        if (!isPack(n) || !isBetween(place, 0, n - 1) || !isBetween(k, 0, MOST_IN_THOUGHT)) {
            return refuse(BAD);
        }
        return shuffledTimes(n, in, place, k);
    }

    public int stay(int n, boolean in, int k) {
        if (!isPack(n) || !isBetween(k, 0, MOST_IN_THOUGHT)) {
            return refuse(BAD);
        }
        int times = k % Math.max(1, timesAgain(n, in));
        int staying = 0;
        for (int place = 0; place < n; place++) {
            if (shuffledTimes(n, in, place, times) == place) {
                staying++;
            }
        }
        return staying;
    }

    public int rounds(int n, boolean in) {
        if (!isPack(n)) {
            return refuse(BAD);
        }
        int found = 0;
        for (int place = 0; place < n; place++) {
            if (isLeastOfItsRound(n, in, place)) {
                found++;
            }
        }
        return found;
    }

    public int tail(int n) {
        if (!isBetween(n, 0, MOST_IN_THOUGHT)) {
            return refuse(BAD);
        }
        if (truth.isStuck()) {
            return refuse(STUCK);
        }
        think(n);
        return thought.who(thought.people - 1);
    }

    /*
     * OUT brings a card of the upper half from p to 2p, IN to 2p + 1: the digits of the place, in
     * twos, are the shuffles. A card that has come to the lower half lands below where fewer
     * shuffles could have brought it, so no other row of shuffles is as short, and any place can
     * be reached: there is never NONE to answer.
     */
    public int brings(int n, int place, int i) {
        if (!isPack(n) || !isBetween(place, 0, n - 1) || i < NONE) {
            return refuse(BAD);
        }
        int shuffles = digitsInTwos(place);
        if (i == NONE) {
            return shuffles;
        }
        return i < shuffles ? (place >> (shuffles - 1 - i)) & 1 : refuse(STUCK);
    }

    // Letting before, in thought

    public int after(int s, int n) {
        int refusal = refusalOfSlate(s, n);
        if (refusal != FINE) {
            return refuse(refusal);
        }
        thought.become(truth);
        for (int i = 0; i < n; i++) {
            long place = shelves[s].elementAt(i);
            if (place < 0 || place >= thought.people - 1) {
                return refuse(STUCK);
            }
            thought.letBefore((int) place);
        }
        return thought.who(0);
    }

    public int fewest(int s) {
        int refusal = refusalOfSlate(s, truth.people);
        if (refusal != FINE) {
            return refuse(refusal);
        }
        if (!hasAllPeople(shelves[s])) {
            return refuse(STUCK);
        }
        thought.become(truth);
        int lettings = 0;
        for (int place = 0; place < thought.people; place++) {
            int person = (int) shelves[s].elementAt(place);
            lettings += thought.placeOf(person) - place;
            thought.move(person, place);
        }
        return lettings;
    }

    // What there is now

    public int unserved() {
        int bits = 0;
        for (int person = 0; person < truth.people; person++) {
            if (truth.counts[person] == 0) {
                bits |= 1 << person;
            }
        }
        return bits;
    }

    public int longest() {
        return truth.isEmpty() ? refuse(STUCK) : firstGreatest(truth.lasts, truth.people);
    }

    public int ranked(int i) {
        if (!truth.hasPerson(i)) {
            return refuse(BAD);
        }
        for (int person = 0; person < truth.people; person++) {
            if (rankOf(person) == i) {
                return person;
            }
        }
        return NONE;
    }

    // In truth

    public int serve(int n) {
        if (!isBetween(n, 1, MOST_IN_TRUTH)) {
            return refuse(BAD);
        }
        if (truth.isStuck()) {
            return refuse(STUCK);
        }
        truth.turnTimes(n);
        return truth.who(0);
    }

    public int lets(int place) {
        if (!truth.hasPlace(place)) {
            return refuse(BAD);
        }
        return truth.hasPlace(place + 1) ? truth.letBefore(place) : refuse(STUCK);
    }

    public int moves(int person, int place) {
        if (!truth.hasPerson(person) || !truth.hasPlace(place)) {
            return refuse(BAD);
        }
        int was = truth.placeOf(person);
        truth.move(person, place);
        return was;
    }

    public int leaves() {
        if (truth.isEmpty()) {
            return refuse(STUCK);
        }
        truth.removeLast();
        return truth.people;
    }

    public int day(int n) {
        if (!isBetween(n, 1, MOST_IN_TRUTH)) {
            return refuse(BAD);
        }
        if (truth.isStuck()) {
            return refuse(STUCK);
        }
        int lettings = 0;
        for (int turn = 0; turn < n; turn++) {
            if (truth.draw(5) == 0 && truth.people > 1) {
                truth.letBefore(truth.draw(truth.people - 1));
                lettings++;
            }
            truth.turn();
        }
        return lettings;
    }

    public int anew() {
        int ahead = truth.turns;
        truth.startAnew();
        return ahead;
    }

    public int seed(int v) {
        int ahead = truth.seed;
        truth.seed = v;
        return ahead;
    }

    public int image() {
        kept.become(truth);
        isKept = true;
        return 1;
    }

    public int back() {
        if (!isKept) {
            return refuse(STUCK);
        }
        truth.become(kept);
        for (int s = 0; s < MOST_SHELVES; s++) {
            if (shelves[s].holdsLaw() && !truth.hasLaw(shelves[s].law)) {
                shelves[s].holdLaw(NONE);
            }
        }
        return 1;
    }

    public int status(int what) {
        switch (what) {
            case 0:
                return truth.people;
            case 1:
                return truth.laws;
            case 2:
                return truth.force;
            case 3:
                return truth.turns;
            case 4:
                return truth.allCounts();
            case 5:
                return truth.isEmpty() ? 0 : truth.lasts[firstGreatest(truth.lasts, truth.people)];
            case 6:
                return tape.size;
            case 7:
                return truth.seed;
            case 8:
                return shelvesInUse();
            default:
                return isBetween(what, 12, 16) ? refusals[what - 12] : NONE;
        }
    }

    // What the calls share

    private static boolean isBetween(int v, int least, int most) {
        return v >= least && v <= most;
    }

    private static boolean isShelf(int s) {
        return isBetween(s, 0, MOST_SHELVES - 1);
    }

    private static boolean isKind(int kind) {
        return isBetween(kind, LAW, END);
    }

    private static boolean isPack(int n) {
        return isBetween(n, FEWEST_CARDS, MOST_CARDS);
    }

    private static boolean isUnder(int kind, int upper) {
        return kind == upper || upper == LAW
                || kind == HALF && upper == DOUBLE || kind == PLUS && upper == OWN;
    }

    private int refuse(int refusal) {
        int index = BAD - refusal;
        if (isBetween(index, 0, REFUSALS - 1)) {
            refusals[index]++;
        }
        return refusal;
    }

    private int refusalOfSlate(int s, int n) {
        if (!isShelf(s) || !isBetween(n, 0, MOST_ELEMENTS)) {
            return BAD;
        }
        int refusal = shelves[s].refusalOfRow();
        if (refusal != FINE) {
            return refusal;
        }
        if (!shelves[s].hasPart(0, n)) {
            return BAD;
        }
        return truth.isStuck() ? STUCK : FINE;
    }

    private void think(int n) {
        thought.become(truth);
        thought.turnTimes(n);
    }

    private void thinkBy(int law) {
        thought.become(truth);
        thought.force = law;
    }

    private int servedBits(int n) {
        thought.become(truth);
        int bits = 0;
        for (int turn = 0; turn < n; turn++) {
            bits |= 1 << thought.turn();
        }
        return bits;
    }

    private int turnOfServing(int person, int k, int n) {
        int times = 0;
        for (int turn = 1; turn <= n; turn++) {
            if (thought.turn() == person) {
                times++;
                if (times == k) {
                    return turn;
                }
            }
        }
        return NONE;
    }

    private int spreadBy(int law, int n) {
        thinkBy(law);
        thought.startAnew();
        thought.turnTimes(n);
        return thought.countsApart();
    }

    private int firstWrong(Shelf slate, int n) {
        for (int i = 0; i < n; i++) {
            if (slate.elementAt(i) != thought.turn()) {
                return i;
            }
        }
        return NONE;
    }

    private int firstPush(Shelf slate, int n) {
        for (int person = 0; person < truth.people; person++) {
            int was = truth.placeOf(person);
            for (int place = 0; place < truth.people; place++) {
                if (place != was) {
                    thought.become(truth);
                    thought.move(person, place);
                    if (firstWrong(slate, n) == NONE) {
                        return 100 * person + place;
                    }
                }
            }
        }
        return NONE;
    }

    private boolean hasAllPeople(Shelf told) {
        int bits = 0;
        for (int i = 0; i < truth.people; i++) {
            long person = told.elementAt(i);
            if (person < 0 || person >= truth.people) {
                return false;
            }
            bits |= 1 << (int) person;
        }
        return bits == truth.allBits();
    }

    private int rankOf(int person) {
        int rank = 0;
        int count = truth.counts[person];
        for (int other = 0; other < truth.people; other++) {
            if (truth.counts[other] > count || truth.counts[other] == count && other < person) {
                rank++;
            }
        }
        return rank;
    }

    private int shelvesInUse() {
        int used = 0;
        for (int s = 0; s < MOST_SHELVES; s++) {
            if (shelves[s].content() != NONE) {
                used++;
            }
        }
        return used;
    }

    private static int firstGreatest(int[] numbers, int n) {
        int best = 0;
        for (int i = 1; i < n; i++) {
            if (numbers[i] > numbers[best]) {
                best = i;
            }
        }
        return best;
    }

    private static int shuffled(int n, boolean in, int place) {
        int upper = in ? n / 2 : (n + 1) / 2;
        int shift = in ? 1 : 0;
        return place < upper ? 2 * place + shift : 2 * (place - upper) + 1 - shift;
    }

    private static int shuffledTimes(int n, boolean in, int place, int k) {
        int lying = place;
        for (int times = 0; times < k; times++) {
            lying = shuffled(n, in, lying);
        }
        return lying;
    }

    private static int digitsInTwos(int n) {
        int digits = 0;
        for (int rest = n; rest > 0; rest /= 2) {
            digits++;
        }
        return digits;
    }

    // No pack of 52 or fewer needs more than 52 shuffles: the bound only shows that the loop ends.
    private int timesAgain(int n, boolean in) {
        for (int place = 0; place < n; place++) {
            pack[place] = place;
        }
        for (int times = 1; times <= MOST_IN_THOUGHT; times++) {
            boolean asAtFirst = true;
            for (int place = 0; place < n; place++) {
                pack[place] = shuffled(n, in, pack[place]);
                asAtFirst = asAtFirst && pack[place] == place;
            }
            if (asAtFirst) {
                return times;
            }
        }
        return NONE;
    }

    // Each round is counted once, by the least of its places.
    private static boolean isLeastOfItsRound(int n, boolean in, int place) {
        int lying = shuffled(n, in, place);
        for (int times = 1; times < n && lying != place; times++) {
            if (lying < place) {
                return false;
            }
            lying = shuffled(n, in, lying);
        }
        return true;
    }

    /** All that image() keeps; thoughts are had in a second one, so that nothing has to be undone. */
    private static final class Shop {
        private final int[] line;
        private final int[] counts;
        private final int[] lasts;
        private final int[] kinds;
        private final int[] amounts;
        private int people;
        private int laws;
        private int force;
        private int turns;
        private int seed;

        private Shop() {
            line = new int[MOST_PEOPLE];
            counts = new int[MOST_PEOPLE];
            lasts = new int[MOST_PEOPLE];
            kinds = new int[MOST_LAWS];
            amounts = new int[MOST_LAWS];
            seed = 1;
        }

        private void become(Shop other) {
            people = other.people;
            laws = other.laws;
            force = other.force;
            turns = other.turns;
            seed = other.seed;
            System.arraycopy(other.line, 0, line, 0, MOST_PEOPLE);
            System.arraycopy(other.counts, 0, counts, 0, MOST_PEOPLE);
            System.arraycopy(other.lasts, 0, lasts, 0, MOST_PEOPLE);
            System.arraycopy(other.kinds, 0, kinds, 0, MOST_LAWS);
            System.arraycopy(other.amounts, 0, amounts, 0, MOST_LAWS);
        }

        private boolean isEmpty() {
            return people < 1;
        }

        private boolean isLawless() {
            return laws < 1;
        }

        private boolean isStuck() {
            return isEmpty() || isLawless();
        }

        private boolean hasRoom() {
            return people < MOST_PEOPLE;
        }

        private boolean hasRoomForLaw() {
            return laws < MOST_LAWS;
        }

        private boolean hasPerson(int person) {
            return person >= 0 && person < people;
        }

        private boolean hasPlace(int place) {
            return place >= 0 && place < people;
        }

        private boolean hasLaw(int law) {
            return law >= 0 && law < laws;
        }

        private int who(int place) {
            return hasPlace(place) ? line[place] : NONE;
        }

        private int placeOf(int person) {
            for (int place = 0; place < people; place++) {
                if (line[place] == person) {
                    return place;
                }
            }
            return NONE;
        }

        private int fact(int person, int what) {
            if (!hasPerson(person)) {
                return NONE;
            }
            if (what == 0) {
                return placeOf(person);
            }
            return what == 1 ? counts[person] : lasts[person];
        }

        private int kindOf(int law) {
            return hasLaw(law) ? kinds[law] : NONE;
        }

        private int amountOf(int law) {
            return hasLaw(law) ? amounts[law] : NONE;
        }

        private int allBits() {
            return (1 << people) - 1;
        }

        private int allCounts() {
            int sum = 0;
            for (int person = 0; person < people; person++) {
                sum += counts[person];
            }
            return sum;
        }

        private int countsApart() {
            int least = counts[0];
            int most = counts[0];
            for (int person = 1; person < people; person++) {
                least = Math.min(least, counts[person]);
                most = Math.max(most, counts[person]);
            }
            return most - least;
        }

        private boolean standsLike(Shop other) {
            for (int place = 0; place < people; place++) {
                if (line[place] != other.line[place]) {
                    return false;
                }
            }
            return true;
        }

        private int add() {
            if (!hasRoom()) {
                return NONE;
            }
            int person = people;
            people++;
            line[person] = person;
            counts[person] = 0;
            lasts[person] = 1;
            return person;
        }

        private void removeLast() {
            if (!isEmpty()) {
                move(people - 1, people - 1);
                people--;
            }
        }

        private int addLaw(int kind, int a) {
            if (!hasRoomForLaw()) {
                return NONE;
            }
            int law = laws;
            laws++;
            kinds[law] = kind;
            amounts[law] = a;
            return law;
        }

        private int letBefore(int place) {
            if (!hasPlace(place) || !hasPlace(place + 1)) {
                return NONE;
            }
            int before = line[place + 1];
            line[place + 1] = line[place];
            line[place] = before;
            return before;
        }

        private void move(int person, int place) {
            int was = placeOf(person);
            if (was == NONE || !hasPlace(place)) {
                return;
            }
            if (was < place) {
                System.arraycopy(line, was + 1, line, was, place - was);
            } else {
                System.arraycopy(line, place, line, place + 1, was - place);
            }
            line[place] = person;
        }

        private void startAnew() {
            Arrays.fill(counts, 0);
            Arrays.fill(lasts, 1);
            turns = 0;
        }

        /** Behind how many the first would go back by a law, were he served now. */
        private int stepsBack(int law) {
            int person = line[0];
            if (!hasPerson(person) || !hasLaw(law)) {
                return NONE;
            }
            // Not below 0 even if a COUNT, which has no bound in truth, had wrapped.
            return Math.max(0, Math.min(stepsWanted(person, law), people - 1));
        }

        private int stepsWanted(int person, int law) {
            int countThen = counts[person] + 1;
            switch (kinds[law]) {
                case DOUBLE:
                case HALF:
                    return lasts[person];
                case OWN:
                    return countThen;
                case PLUS:
                    return countThen + amounts[law];
                case END:
                    return people - 1;
                default:
                    return amounts[law];
            }
        }

        /** What the LAST of the first would be by a law, were he served now. */
        private int lastThen(int law) {
            int person = line[0];
            if (!hasPerson(person) || !hasLaw(law)) {
                return NONE;
            }
            int last = lasts[person];
            if (!isUnder(kinds[law], DOUBLE)) {
                return last;
            }
            if (kinds[law] == HALF && last >= people - 1) {
                return 1;
            }
            return Math.min(2 * last, MOST_LAST);
        }

        private int turn() {
            int steps = stepsBack(force);
            if (steps == NONE) {
                return NONE;
            }
            int person = line[0];
            lasts[person] = lastThen(force);
            counts[person]++;
            turns++;
            System.arraycopy(line, 1, line, 0, steps);
            line[steps] = person;
            return person;
        }

        private void turnTimes(int n) {
            for (int turn = 0; turn < n; turn++) {
                turn();
            }
        }

        private int draw(int n) {
            seed = seed * 1103515245 + 12345;
            return n > 0 ? (seed >>> 16) % n : 0;
        }
    }

    /** What one shelf holds; each sort of row has its elements as longs, cut when they are put in. */
    private static final class Shelf {
        private final long[] elements;
        private int sort;
        private int law;
        private int size;

        private Shelf() {
            elements = new long[MOST_ELEMENTS];
            sort = NONE;
            law = NONE;
        }

        private boolean holdsRow() {
            return sort != NONE;
        }

        private boolean holdsLaw() {
            return law != NONE;
        }

        private boolean isOtherRowThan(Shelf other) {
            return holdsRow() && other.holdsRow() && sort != other.sort;
        }

        private int refusalOfRow() {
            if (holdsLaw()) {
                return OTHER;
            }
            return holdsRow() ? FINE : NOTHING;
        }

        private int content() {
            return holdsLaw() ? SHOWN_LAW + law : sort;
        }

        private void holdRow(int newSort, int n) {
            law = NONE;
            sort = newSort;
            size = n;
            Arrays.fill(elements, 0);
        }

        private void holdLaw(int newLaw) {
            law = newLaw;
            sort = NONE;
            size = 0;
        }

        private boolean hasPart(int i, int n) {
            return i >= 0 && n >= 0 && n <= size && i <= size - n;
        }

        private long elementAt(int i) {
            return hasPart(i, 1) ? elements[i] : 0;
        }

        private void put(int i, long v) {
            if (hasPart(i, 1)) {
                elements[i] = cut(v);
            }
        }

        private long cut(long v) {
            switch (sort) {
                case BYTES:
                    return (byte) v;
                case SHORTS:
                    return (short) v;
                case INTS:
                    return (int) v;
                case BOOLEANS:
                    return v != 0 ? 1 : 0;
                default:
                    return v;
            }
        }
    }

    /** The tape, and the token in hand while it is read: a fault is always where that token starts. */
    private static final class Tape {
        private final int[] bytes;
        private int size;
        private int start;
        private int end;

        private Tape() {
            bytes = new int[MOST_BYTES];
        }

        private boolean add(int letter) {
            if (size >= MOST_BYTES) {
                return false;
            }
            bytes[size] = letter;
            size++;
            return true;
        }

        /** How many statements; NONE: the token in hand can't stand there. */
        private int readInto(Shop shop) {
            end = 0;
            for (int statements = 1; statements <= MOST_BYTES; statements++) {
                goOn();
                if (!readStatement(shop)) {
                    return NONE;
                }
                goOn();
                if (start >= size) {
                    return statements;
                }
                if (bytes[start] != ';') {
                    return NONE;
                }
            }
            return NONE;
        }

        private boolean readStatement(Shop shop) {
            if (isWord("people")) {
                return readPeople(shop);
            }
            if (isWord("law")) {
                return shop.hasRoomForLaw() && readLaw(shop);
            }
            if (isWord("use")) {
                return readUse(shop);
            }
            if (isWord("serve")) {
                return readServe(shop);
            }
            if (isWord("let")) {
                return readLet(shop);
            }
            if (isWord("leave")) {
                return readLeave(shop);
            }
            return isWord("count") && readCount(shop);
        }

        private boolean readPeople(Shop shop) {
            int n = number(1, MOST_PEOPLE - shop.people);
            for (int i = 0; i < n; i++) {
                shop.add();
            }
            return n != NONE;
        }

        private boolean readLaw(Shop shop) {
            int kind = number(LAW, END);
            if (kind == NONE) {
                return false;
            }
            int a = number(0, MOST_A);
            return a != NONE && shop.addLaw(kind, a) != NONE;
        }

        private boolean readUse(Shop shop) {
            int law = number(0, shop.laws - 1);
            if (law == NONE) {
                return false;
            }
            shop.force = law;
            return true;
        }

        private boolean readServe(Shop shop) {
            int n = number(1, shop.isStuck() ? 0 : MOST_IN_TRUTH);
            for (int turn = 0; turn < n; turn++) {
                shop.turn();
            }
            return n != NONE;
        }

        private boolean readLet(Shop shop) {
            int place = number(0, shop.people - 2);
            return place != NONE && shop.letBefore(place) != NONE;
        }

        private boolean readLeave(Shop shop) {
            int last = number(shop.people - 1, shop.people - 1);
            if (last == NONE) {
                return false;
            }
            shop.removeLast();
            return true;
        }

        private boolean readCount(Shop shop) {
            int person = number(0, shop.people - 1);
            if (person == NONE) {
                return false;
            }
            int count = number(0, MOST_COUNT);
            if (count == NONE || !shop.hasPerson(person)) {
                return false;
            }
            shop.counts[person] = count;
            return true;
        }

        private void goOn() {
            start = end;
            while (start < size && bytes[start] == ' ') {
                start++;
            }
            end = Math.min(start + 1, size);
            if (start < size && isLetter(bytes[start])) {
                while (end < size && isLetter(bytes[end])) {
                    end++;
                }
            } else if (start < size && isDigit(bytes[start])) {
                while (end < size && isDigit(bytes[end])) {
                    end++;
                }
            }
        }

        private static boolean isLetter(int letter) {
            return letter >= 'a' && letter <= 'z';
        }

        private static boolean isDigit(int letter) {
            return letter >= '0' && letter <= '9';
        }

        private boolean isWord(String word) {
            if (end - start != word.length()) {
                return false;
            }
            for (int i = 0; i < word.length() && start + i < size; i++) {
                if (bytes[start + i] != word.charAt(i)) {
                    return false;
                }
            }
            return true;
        }

        private int number(int least, int most) {
            goOn();
            int n = numberInHand();
            return n >= least && n <= most ? n : NONE;
        }

        private int numberInHand() {
            if (start >= size || !isDigit(bytes[start]) || end - start > MOST_DIGITS) {
                return NONE;
            }
            int n = 0;
            for (int i = start; i < end; i++) {
                n = 10 * n + bytes[i] - '0';
            }
            return n;
        }
    }
}
