import java.util.ArrayList;
import java.util.Arrays;
import java.util.Collections;
import java.util.Comparator;
import java.util.HashSet;
import java.util.List;
import java.util.Set;
import java.util.regex.Matcher;
import java.util.regex.Pattern;
import java.util.stream.Collectors;
import java.util.stream.IntStream;

/**
 * The document once more, written without regard to speed or to LANGUAGE.md and otherwise than the
 * program: people and laws are objects, refusals are thrown, and what is thought is a copy.
 * Each method bears the name of a promise; ModelTest asks them through answer() of that class.
 */
final class Model {
    static final class Refused extends RuntimeException {
        private static final long serialVersionUID = 1;
        final int number;
        final int answer;

        Refused(int number, int answer) {
            super(null, null, false, false);
            this.number = number;
            this.answer = answer;
        }
    }

    private static final int NONE = -1;

    private static void need(boolean holds, int refusal) {
        if (!holds) {
            throw new Refused(refusal, refusal);
        }
    }

    private static void good(boolean... hold) {
        for (boolean holds : hold) {
            need(holds, -2);
        }
    }

    private static boolean in(int v, int least, int most) {
        return least <= v && v <= most;
    }

    private static final class Person {
        final int number;
        int count;
        int last = 1;

        Person(int number) {
            this.number = number;
        }

        Person copied() {
            Person copy = new Person(number);
            copy.count = count;
            copy.last = last;
            return copy;
        }
    }

    private static class Law {
        int kind;
        int a;

        int back(Person served, int others) {
            return a;
        }

        void thenLast(Person served, int others) {
        }

        static Law of(int kind, int a) {
            List<Law> kinds = List.of(
                new Law(), new Doubling(), new Own(), new Half(), new Plus(), new End());
            Law law = kinds.get(kind);
            law.kind = kind;
            law.a = a;
            return law;
        }

        boolean is(int wanted) {
            Class<?>[] kinds =
                {Law.class, Doubling.class, Own.class, Half.class, Plus.class, End.class};
            return kinds[wanted].isInstance(this);
        }
    }

    private static class Doubling extends Law {
        @Override
        int back(Person served, int others) {
            return served.last;
        }

        @Override
        void thenLast(Person served, int others) {
            served.last = served.last + served.last > 99 ? 99 : served.last + served.last;
        }
    }

    private static final class Half extends Doubling {
        @Override
        void thenLast(Person served, int others) {
            if (served.last < others) {
                super.thenLast(served, others);
            } else {
                served.last = 1;
            }
        }
    }

    private static class Own extends Law {
        @Override
        int back(Person served, int others) {
            return served.count;
        }
    }

    private static final class Plus extends Own {
        @Override
        int back(Person served, int others) {
            return super.back(served, others) + a;
        }
    }

    private static final class End extends Law {
        @Override
        int back(Person served, int others) {
            return Integer.MAX_VALUE;
        }
    }

    private static final class World {
        final List<Person> line = new ArrayList<>();
        final List<Law> laws = new ArrayList<>();
        int force;
        int turns;
        int seed = 1;

        World copied() {
            World copy = new World();
            line.forEach(person -> copy.line.add(person.copied()));
            copy.laws.addAll(laws);
            copy.force = force;
            copy.turns = turns;
            copy.seed = seed;
            return copy;
        }

        World by(int law) {
            World copy = copied();
            copy.force = law;
            return copy;
        }

        World asAtFirst() {
            World copy = copied();
            for (Person person : copy.line) {
                person.count = 0;
                person.last = 1;
            }
            return copy;
        }

        Person person(int number) {
            return line.stream().filter(p -> p.number == number).findFirst().orElseThrow();
        }

        int place(int number) {
            return line.indexOf(person(number));
        }

        List<Integer> numbers() {
            return line.stream().map(p -> p.number).collect(Collectors.toList());
        }

        IntStream byNumber() {
            return IntStream.range(0, line.size());
        }

        int turn() {
            Person served = line.remove(0);
            served.count++;
            turns++;
            Law law = laws.get(force);
            int back = Math.min(law.back(served, line.size()), line.size());
            law.thenLast(served, line.size());
            line.add(back, served);
            return served.number;
        }

        List<Integer> slate(int n) {
            List<Integer> slate = new ArrayList<>();
            for (int i = 0; i < n; i++) {
                slate.add(turn());
            }
            return slate;
        }

        void come() {
            line.add(new Person(line.size()));
        }

        void leave() {
            line.remove(place(line.size() - 1));
        }

        void let(int place) {
            Collections.swap(line, place, place + 1);
        }

        void move(int number, int place) {
            Person person = person(number);
            line.remove(person);
            line.add(place, person);
        }

        int draw(int below) {
            seed = seed * 1103515245 + 12345;
            return (seed >>> 16) % below;
        }

        int spread() {
            return line.stream().mapToInt(p -> p.count).max().orElseThrow()
                - line.stream().mapToInt(p -> p.count).min().orElseThrow();
        }

        int fact(int number, int what) {
            Person person = person(number);
            return List.of(line.indexOf(person), person.count, person.last).get(what);
        }
    }

    private World world = new World();
    private World kept;
    private final StringBuilder tape = new StringBuilder();
    private final Object[] shelves = new Object[8];
    private final int[] sorts = new int[8];
    final int[] refusals = new int[5];

    private int people() {
        return world.line.size();
    }

    private boolean isPerson(int person) {
        return in(person, 0, people() - 1);
    }

    private boolean isLaw(int law) {
        return in(law, 0, world.laws.size() - 1);
    }

    private static boolean isShelf(int s) {
        return in(s, 0, 7);
    }

    private void someLaws() {
        need(!world.laws.isEmpty(), -5);
    }

    private void somebody() {
        need(people() > 0, -5);
    }

    private void somebodyAndLaws() {
        somebody();
        someLaws();
    }

    // Shelves: null, an Integer (a law's number), or a long[] of its sort.

    private long[] rowIn(int s) {
        need(!(shelves[s] instanceof Integer), -3);
        need(shelves[s] != null, -4);
        return (long[]) shelves[s];
    }

    int row(int s, int sort, int n) {
        good(isShelf(s), in(sort, 0, 4), in(n, 0, 40));
        shelves[s] = new long[n];
        sorts[s] = sort;
        return 1;
    }

    int set(int s, int i, long v) {
        good(isShelf(s));
        long[] row = rowIn(s);
        good(in(i, 0, row.length - 1));
        int bits = List.of(8, 16, 32, 64, 0).get(sorts[s]);
        row[i] = bits == 0 ? Math.min(1, Math.abs(Long.signum(v))) : v << 64 - bits >> 64 - bits;
        return 1;
    }

    int copy(int p, int q, int i, int j, int n) {
        good(isShelf(p), isShelf(q));
        need(!(shelves[p] instanceof Integer) && !(shelves[q] instanceof Integer), -3);
        need(shelves[p] == null || shelves[q] == null || sorts[p] == sorts[q], -3);
        long[] from = rowIn(p);
        long[] to = rowIn(q);
        good(i >= 0, j >= 0, n >= 0, (long) i + n <= from.length, (long) j + n <= to.length);
        List<Long> asTheyWere = new ArrayList<>();
        for (long v : from) {
            asTheyWere.add(v);
        }
        for (int k = 0; k < n; k++) {
            to[j + k] = asTheyWere.get(i + k);
        }
        return n;
    }

    long element(int s, int i) {
        if (!isShelf(s) || !(shelves[s] instanceof long[])) {
            return 0;
        }
        long[] row = (long[]) shelves[s];
        return in(i, 0, row.length - 1) ? row[i] : 0;
    }

    int holds(int s) {
        if (!isShelf(s) || shelves[s] == null) {
            return NONE;
        }
        return shelves[s] instanceof Integer ? 10 + (Integer) shelves[s] : sorts[s];
    }

    int show(int s, int law) {
        good(isShelf(s), law == NONE || isLaw(law));
        shelves[s] = law == NONE ? null : (Object) law;
        return 1;
    }

    int says(int s, int kind) {
        good(isShelf(s), in(kind, 0, 5));
        need(!(shelves[s] instanceof long[]), -3);
        need(shelves[s] == null || world.laws.get((Integer) shelves[s]).is(kind), -3);
        need(shelves[s] != null, -4);
        int law = (Integer) shelves[s];
        if (kind == 0) {
            return world.laws.get(law).a;
        }
        if (people() == 0) {
            return NONE;
        }
        World thought = world.by(law);
        int served = thought.turn();
        return kind == 3 ? thought.fact(served, 2) : thought.fact(served, 0);
    }

    // People, laws, the tape

    int comes() {
        need(people() < 16, -6);
        world.come();
        return people() - 1;
    }

    int law(int kind, int a) {
        good(in(kind, 0, 5), in(a, 0, 15));
        need(world.laws.size() < 6, -6);
        world.laws.add(Law.of(kind, a));
        return world.laws.size() - 1;
    }

    int use(int law) {
        good(isLaw(law));
        int ahead = world.force;
        world.force = law;
        return ahead;
    }

    int tell(int person, int what, int v) {
        good(isPerson(person), what == 0 && in(v, 0, 999) || what == 1 && in(v, 1, 99));
        Person told = world.person(person);
        int was = what == 0 ? told.count : told.last;
        if (what == 0) {
            told.count = v;
        } else {
            told.last = v;
        }
        return was;
    }

    int feed(int letter) {
        good(in(letter, 0, 255));
        need(tape.length() < 250, -6);
        tape.append((char) letter);
        return tape.length();
    }

    int wipe() {
        int ahead = tape.length();
        tape.setLength(0);
        return ahead;
    }

    private static final Pattern TOKEN = Pattern.compile("[a-z]+|[0-9]+|;|[^ ]");

    private static final class Fault extends RuntimeException {
        private static final long serialVersionUID = 1;
        final int place;

        Fault(int place) {
            super(null, null, false, false);
            this.place = place;
        }
    }

    private static final class Tokens {
        final List<String> tokens = new ArrayList<>();
        final List<Integer> places = new ArrayList<>();
        int next;

        Tokens(String text) {
            Matcher matcher = TOKEN.matcher(text);
            while (matcher.find()) {
                tokens.add(matcher.group());
                places.add(matcher.start());
            }
            tokens.add("");
            places.add(text.length());
        }

        String take() {
            return tokens.get(next++);
        }

        void stand(boolean can) {
            if (!can) {
                throw new Fault(places.get(next - 1));
            }
        }

        int number(int least, int most) {
            String token = take();
            stand(token.matches("[0-9]{1,3}"));
            int n = Integer.parseInt(token);
            stand(in(n, least, most));
            return n;
        }
    }

    int shop() {
        Tokens tokens = new Tokens(tape.toString());
        tape.setLength(0);
        World draft = world.copied();
        try {
            int statements = 0;
            do {
                statement(tokens, draft);
                statements++;
                tokens.take();
                tokens.stand(List.of("", ";").contains(tokens.tokens.get(tokens.next - 1)));
            } while (tokens.next < tokens.tokens.size());
            world = draft;
            return statements;
        } catch (Fault fault) {
            throw new Refused(-2, -20 - fault.place);
        }
    }

    private static void statement(Tokens tokens, World draft) {
        int people = draft.line.size();
        boolean some = people > 0 && !draft.laws.isEmpty();
        switch (tokens.take()) {
            case "people" -> IntStream.range(0, tokens.number(1, 16 - people))
                .forEach(i -> draft.come());
            case "law" -> {
                tokens.stand(draft.laws.size() < 6);
                int kind = tokens.number(0, 5);
                draft.laws.add(Law.of(kind, tokens.number(0, 15)));
            }
            case "use" -> draft.force = tokens.number(0, draft.laws.size() - 1);
            case "serve" -> draft.slate(tokens.number(1, some ? 99 : 0));
            case "let" -> draft.let(tokens.number(0, people - 2));
            case "leave" -> {
                tokens.number(people - 1, people - 1);
                draft.leave();
            }
            case "count" -> {
                Person person = draft.person(tokens.number(0, people - 1));
                person.count = tokens.number(0, 999);
            }
            default -> tokens.stand(false);
        }
    }

    int personOf(int person, int what) {
        good(isPerson(person), in(what, 0, 2));
        return world.fact(person, what);
    }

    int lawOf(int law, int what) {
        good(isLaw(law), in(what, 0, 1));
        return what == 0 ? world.laws.get(law).kind : world.laws.get(law).a;
    }

    int at(int place) {
        good(in(place, 0, people() - 1));
        return world.numbers().get(place);
    }

    // In thought

    private World behindTurns(int n) {
        World thought = world.copied();
        thought.slate(n);
        return thought;
    }

    /** Who is served, turn by turn: element 0 is the first turn. */
    private List<Integer> told(int n) {
        return world.copied().slate(n);
    }

    int stands(int n, int place) {
        good(in(n, 0, 999), in(place, 0, people() - 1));
        someLaws();
        return behindTurns(n).numbers().get(place);
    }

    int behind(int n, int person, int what) {
        good(in(n, 0, 999), isPerson(person), in(what, 0, 2));
        someLaws();
        return behindTurns(n).fact(person, what);
    }

    int served(int n) {
        good(in(n, 1, 999));
        somebodyAndLaws();
        return told(n).get(n - 1);
    }

    int round() {
        somebodyAndLaws();
        World thought = world.copied();
        for (int n = 1; n <= 999; n++) {
            thought.turn();
            if (thought.numbers().equals(world.numbers())) {
                return n;
            }
        }
        return NONE;
    }

    private static List<Integer> turnsOf(int person, List<Integer> slate) {
        return IntStream.rangeClosed(1, slate.size()).filter(n -> slate.get(n - 1) == person)
            .boxed().collect(Collectors.toList());
    }

    int when(int person, int k) {
        good(isPerson(person), in(k, 1, 99));
        someLaws();
        List<Integer> turns = turnsOf(person, told(999));
        return turns.size() >= k ? turns.get(k - 1) : NONE;
    }

    int never() {
        somebodyAndLaws();
        Set<Integer> served = new HashSet<>(told(999));
        return world.byNumber().filter(p -> !served.contains(p)).map(p -> 1 << p).sum();
    }

    int stand(int n) {
        good(in(n, 1, 999));
        somebodyAndLaws();
        return world.place(told(n).get(n - 1));
    }

    int leader(int n) {
        good(in(n, 0, 999));
        somebodyAndLaws();
        World thought = world.asAtFirst();
        thought.slate(n);
        return firstMost(thought.byNumber().map(p -> thought.person(p).count).toArray());
    }

    private static int firstMost(int[] numbers) {
        int most = Arrays.stream(numbers).max().orElseThrow();
        return IntStream.range(0, numbers.length).filter(i -> numbers[i] == most).findFirst()
            .orElseThrow();
    }

    int waits(int person) {
        good(isPerson(person));
        someLaws();
        List<Integer> turns = turnsOf(person, told(999));
        return IntStream.range(0, turns.size())
            .map(i -> turns.get(i) - (i == 0 ? 0 : turns.get(i - 1))).max().orElse(NONE);
    }

    int several(int n) {
        good(in(n, 0, 999));
        somebodyAndLaws();
        return new HashSet<>(told(n)).size();
    }

    int beside(int person, int other) {
        good(isPerson(person), isPerson(other), person != other);
        someLaws();
        World thought = world.copied();
        for (int n = 0; n <= 999; n++) {
            int apart = thought.place(person) - thought.place(other);
            if (apart == 1 || apart == -1) {
                return n;
            }
            thought.turn();
        }
        return NONE;
    }

    int unlike(int law, int other) {
        good(isLaw(law), isLaw(other));
        somebody();
        List<Integer> one = world.by(law).slate(999);
        List<Integer> two = world.by(other).slate(999);
        return IntStream.rangeClosed(1, 999).filter(n -> !one.get(n - 1).equals(two.get(n - 1)))
            .findFirst().orElse(NONE);
    }

    int lawFor(int person, int n) {
        good(isPerson(person), in(n, 0, 999));
        someLaws();
        return firstMost(IntStream.range(0, world.laws.size()).map(law -> {
            World thought = world.by(law);
            thought.slate(n);
            return thought.person(person).count;
        }).toArray());
    }

    int newcomer() {
        someLaws();
        need(people() < 16, -6);
        World thought = world.copied();
        thought.come();
        return turnsOf(people(), thought.slate(999)).stream().findFirst().orElse(NONE);
    }

    int forward(int person, int k, int n) {
        good(isPerson(person), in(k, 1, 99), in(n, 0, 999));
        someLaws();
        int place = world.place(person);
        for (int ahead = 0; ahead <= place; ahead++) {
            World thought = world.copied();
            thought.move(person, place - ahead);
            if (turnsOf(person, thought.slate(n)).size() >= k) {
                return ahead;
            }
        }
        return NONE;
    }

    private int spreadBy(int law, int n) {
        World thought = world.by(law).asAtFirst();
        thought.slate(n);
        return thought.spread();
    }

    int level(int law) {
        good(isLaw(law));
        somebody();
        World thought = world.by(law).asAtFirst();
        return IntStream.rangeClosed(1, 999).filter(n -> {
            thought.turn();
            return thought.spread() == 0;
        }).findFirst().orElse(NONE);
    }

    int spread(int law, int n) {
        good(isLaw(law), in(n, 0, 999));
        somebody();
        return spreadBy(law, n);
    }

    int fairest(int n) {
        good(in(n, 0, 999));
        somebodyAndLaws();
        return firstMost(IntStream.range(0, world.laws.size()).map(law -> -spreadBy(law, n))
            .toArray());
    }

    // Slates

    private List<Long> slateIn(int s, int n) {
        good(isShelf(s), in(n, 0, 40));
        long[] row = rowIn(s);
        good(n <= row.length);
        somebodyAndLaws();
        return Arrays.stream(row).limit(n).boxed().collect(Collectors.toList());
    }

    private static int wrong(World thought, List<Long> slate) {
        List<Integer> served = thought.slate(slate.size());
        return IntStream.range(0, slate.size()).filter(i -> slate.get(i) != (long) served.get(i))
            .findFirst().orElse(NONE);
    }

    int judge(int s, int n) {
        return wrong(world.copied(), slateIn(s, n));
    }

    int fits(int s, int n) {
        List<Long> slate = slateIn(s, n);
        return IntStream.range(0, world.laws.size())
            .filter(law -> wrong(world.by(law), slate) == NONE).map(law -> 1 << law).sum();
    }

    int pushed(int s, int n) {
        List<Long> slate = slateIn(s, n);
        if (wrong(world.copied(), slate) == NONE) {
            return NONE;
        }
        return IntStream.range(0, people() * people()).map(i -> 100 * (i / people()) + i % people())
            .filter(push -> world.place(push / 100) != push % 100).filter(push -> {
                World thought = world.copied();
                thought.move(push / 100, push % 100);
                return wrong(thought, slate) == NONE;
            }).findFirst().orElse(NONE);
    }

    int after(int s, int n) {
        List<Long> places = slateIn(s, n);
        World thought = world.copied();
        for (long place : places) {
            need(0 <= place && place < people() - 1, -5);
            thought.let((int) place);
        }
        return thought.numbers().get(0);
    }

    int fewest(int s) {
        List<Long> wanted = slateIn(s, people());
        List<Integer> row = world.numbers();
        need(row.stream().allMatch(p -> wanted.contains((long) p)), -5);
        int lettings = 0;
        for (int i = 0; i < row.size(); i++) {
            for (int j = i + 1; j < row.size(); j++) {
                int one = wanted.indexOf((long) row.get(i));
                int two = wanted.indexOf((long) row.get(j));
                lettings += one > two ? 1 : 0;
            }
        }
        return lettings;
    }

    // Packs: the cards, from the first on

    private static List<Integer> pack(int n) {
        return IntStream.range(0, n).boxed().collect(Collectors.toList());
    }

    private static List<Integer> shuffled(List<Integer> pack, boolean in) {
        int half = in ? pack.size() / 2 : (pack.size() + 1) / 2;
        List<Integer> upper = new ArrayList<>(pack.subList(0, half));
        List<Integer> lower = new ArrayList<>(pack.subList(half, pack.size()));
        List<Integer> laid = new ArrayList<>();
        while (laid.size() < pack.size()) {
            List<Integer> from = laid.size() % 2 == 0 ^ in ? upper : lower;
            laid.add(from.remove(0));
        }
        return laid;
    }

    private static List<Integer> shuffled(int n, boolean in, int k) {
        List<Integer> pack = pack(n);
        for (int i = 0; i < k; i++) {
            pack = shuffled(pack, in);
        }
        return pack;
    }

    int again(int n, boolean in) {
        good(in(n, 2, 52));
        int times = 1;
        for (List<Integer> pack = shuffled(n, in, 1); !pack.equals(pack(n)); times++) {
            pack = shuffled(pack, in);
        }
        return times;
    }

    int lies(int n, boolean in, int place, int k) {
        good(in(n, 2, 52), in(place, 0, n - 1), in(k, 0, 999));
        return shuffled(n, in, k).indexOf(place);
    }

    int stay(int n, boolean in, int k) {
        good(in(n, 2, 52), in(k, 0, 999));
        List<Integer> pack = shuffled(n, in, k);
        return (int) pack.stream().filter(card -> pack.get(card).equals(card)).count();
    }

    int rounds(int n, boolean in) {
        good(in(n, 2, 52));
        List<Integer> pack = shuffled(n, in, 1);
        Set<Set<Integer>> rounds = new HashSet<>();
        for (int card = 0; card < n; card++) {
            Set<Integer> round = new HashSet<>();
            for (int place = card; round.add(place);) {
                place = pack.indexOf(place);
            }
            rounds.add(round);
        }
        return rounds.size();
    }

    int tail(int n) {
        good(in(n, 0, 999));
        somebodyAndLaws();
        List<Integer> row = behindTurns(n).numbers();
        return row.get(row.size() - 1);
    }

    int brings(int n, int place, int i) {
        good(in(n, 2, 52), in(place, 0, n - 1), i >= NONE);
        // All rows of 0, 1, 2 .. shuffles by numbers, each with the place of the first card.
        List<String> rows = List.of("");
        while (true) {
            for (String row : rows) {
                List<Integer> pack = pack(n);
                for (char shuffle : row.toCharArray()) {
                    pack = shuffled(pack, shuffle == '1');
                }
                if (pack.indexOf(0) == place) {
                    need(i < row.length(), -5);
                    return i == NONE ? row.length() : row.charAt(i) - '0';
                }
            }
            rows = rows.stream().flatMap(row -> List.of(row + "0", row + "1").stream())
                .collect(Collectors.toList());
        }
    }

    // What there is

    int unserved() {
        return world.line.stream().filter(p -> p.count == 0).mapToInt(p -> 1 << p.number).sum();
    }

    int longest() {
        somebody();
        return firstMost(world.byNumber().map(p -> world.person(p).last).toArray());
    }

    int ranked(int i) {
        good(isPerson(i));
        List<Person> people = new ArrayList<>(world.line);
        people.sort(Comparator.comparingInt((Person p) -> -p.count).thenComparingInt(p -> p.number));
        return people.get(i).number;
    }

    // In truth

    int serve(int n) {
        good(in(n, 1, 99));
        somebodyAndLaws();
        world.slate(n);
        return world.numbers().get(0);
    }

    int lets(int place) {
        good(in(place, 0, people() - 1));
        need(place + 1 < people(), -5);
        world.let(place);
        return world.numbers().get(place);
    }

    int moves(int person, int place) {
        good(isPerson(person), in(place, 0, people() - 1));
        int was = world.place(person);
        world.move(person, place);
        return was;
    }

    int leaves() {
        somebody();
        world.leave();
        return people();
    }

    int day(int n) {
        good(in(n, 1, 99));
        somebodyAndLaws();
        int lettings = 0;
        for (int i = 0; i < n; i++) {
            if (world.draw(5) == 0 && people() >= 2) {
                world.let(world.draw(people() - 1));
                lettings++;
            }
            world.turn();
        }
        return lettings;
    }

    int anew() {
        int ahead = world.turns;
        world = world.asAtFirst();
        world.turns = 0;
        return ahead;
    }

    int seed(int v) {
        int ahead = world.seed;
        world.seed = v;
        return ahead;
    }

    int image() {
        kept = world.copied();
        return 1;
    }

    int back() {
        need(kept != null, -5);
        world = kept.copied();
        for (int s = 0; s < 8; s++) {
            if (shelves[s] instanceof Integer && (Integer) shelves[s] >= world.laws.size()) {
                shelves[s] = null;
            }
        }
        return 1;
    }

    int status(int what) {
        if (in(what, 12, 16)) {
            return refusals[what - 12];
        }
        return switch (what) {
            case 0 -> people();
            case 1 -> world.laws.size();
            case 2 -> world.force;
            case 3 -> world.turns;
            case 4 -> world.line.stream().mapToInt(p -> p.count).sum();
            case 5 -> world.line.stream().mapToInt(p -> p.last).max().orElse(0);
            case 6 -> tape.length();
            case 7 -> world.seed;
            case 8 -> (int) Arrays.stream(shelves).filter(s -> s != null).count();
            default -> NONE;
        };
    }
}
