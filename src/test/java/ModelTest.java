import java.lang.reflect.InvocationTargetException;
import java.lang.reflect.Method;
import java.util.ArrayList;
import java.util.Arrays;
import java.util.List;
import java.util.Random;

/**
 * Runs of random calls (always the same ones), each asked of a BackByTwice and of the Model. The
 * arguments are told by names: mostly such as may be, often at an edge, sometimes wrong.
 */
public final class ModelTest {
    private static final int RUNS = 260;
    private static final int CALLS = 512;

    /** The call's name and what its arguments are; the first number is how often it is drawn. */
    private static final String[] CALLS_AND_ARGUMENTS = {
        "4 row shelf sort size", "14 set shelf index value", "6 copy shelf shelf index index part",
        "6 element shelf index", "3 holds shelf", "6 show shelf lawOrNone", "10 says shelf kind",
        "4 comes", "3 law kind a", "5 use law", "8 tell person factTold told", "2 feed letter",
        "1 wipe", "1 shop", "6 personOf person fact", "3 lawOf law lawFact", "4 at place",
        "5 stands turns place", "6 behind turns person fact", "5 served turns1", "4 round",
        "5 when person times", "3 never", "4 stand turns1", "4 leader turns", "4 waits person",
        "3 several turns", "5 beside person person", "5 unlike law law", "5 lawFor person turns",
        "4 newcomer", "6 forward person times turns", "4 level law", "5 spread law turns",
        "4 fairest turns", "5 judge shelf slate", "5 fits shelf slate", "6 pushed shelf slate",
        "2 again cards way", "3 lies cards way card turns", "2 stay cards way turns",
        "2 rounds cards way", "3 tail turns", "3 brings cards card shuffle", "5 after shelf slate",
        "4 fewest shelf", "3 unserved", "3 longest", "4 ranked person", "6 serve inTruth",
        "6 lets place", "6 moves person place", "1 leaves", "4 day inTruth", "1 anew",
        "2 seed any", "1 image", "1 back", "12 status status"};

    private static final Method[] ASKED = methodsOf(BackByTwice.class);
    private static final Method[] MODELS = methodsOf(Model.class);

    private static Method[] methodsOf(Class<?> asked) {
        return Arrays.stream(CALLS_AND_ARGUMENTS).map(line -> {
            String name = line.split(" ")[1];
            int arguments = line.split(" ").length - 2;
            return Arrays.stream(asked.getDeclaredMethods())
                .filter(m -> m.getName().equals(name) && m.getParameterCount() == arguments)
                .findFirst().orElseThrow();
        }).toArray(Method[]::new);
    }

    private final Random random;
    private final BackByTwice x = new BackByTwice();
    private final Model model = new Model();
    private final List<String> calls = new ArrayList<>();
    private final int edginess;
    private boolean isRight = true;

    private ModelTest(int run) {
        random = new Random(7919L * run + 11);
        edginess = 4 + random.nextInt(40);
    }

    public static void main(String[] args) throws ReflectiveOperationException {
        int wrong = 0;
        int asked = 0;
        for (int run = 0; run < RUNS; run++) {
            ModelTest test = new ModelTest(run);
            test.run();
            asked += test.calls.size();
            wrong += test.isRight ? 0 : 1;
        }
        System.out.println("ModelTest: " + asked + " answers in " + RUNS + " runs, " + wrong
            + " runs not as due");
        if (wrong != 0) {
            System.exit(1);
        }
    }

    private void run() throws ReflectiveOperationException {
        int many = random.nextInt(4) == 0 ? 16 : random.nextInt(9);
        for (int i = 0; i < many; i++) {
            call("comes");
        }
        int laws = random.nextInt(7);
        for (int i = 0; i < laws; i++) {
            call("law", random.nextInt(6), random.nextInt(6));
        }
        while (isRight && calls.size() < CALLS) {
            int special = random.nextInt(40);
            if (special == 0) {
                readShop();
            } else if (special <= 2) {
                tellSlate();
            } else if (special == 3) {
                fillTape();
            } else {
                callAny();
            }
        }
    }

    private void callAny() throws ReflectiveOperationException {
        int sum = 0;
        for (String line : CALLS_AND_ARGUMENTS) {
            sum += Integer.parseInt(line.split(" ")[0]);
        }
        int drawn = random.nextInt(sum);
        for (String line : CALLS_AND_ARGUMENTS) {
            String[] words = line.split(" ");
            drawn -= Integer.parseInt(words[0]);
            if (drawn < 0) {
                Object[] arguments = new Object[words.length - 2];
                for (int i = 0; i < arguments.length; i++) {
                    arguments[i] = argument(words[i + 2]);
                }
                call(words[1], arguments);
                return;
            }
        }
    }

    private void call(String name, Object... arguments) throws ReflectiveOperationException {
        if (!isRight || calls.size() >= CALLS) {
            return;
        }
        int index = 0;
        while (!ASKED[index].getName().equals(name)) {
            index++;
        }
        long due = ofModel(MODELS[index], arguments);
        calls.add(name + Arrays.toString(arguments) + " = " + due);
        Object got;
        try {
            got = ASKED[index].invoke(x, arguments);
        } catch (InvocationTargetException thrown) {
            got = thrown.getCause();
        }
        if (!(got instanceof Number) || ((Number) got).longValue() != due) {
            isRight = false;
            System.out.println("ModelTest: " + String.join("\n    ", calls) + "\n  answered " + got);
        }
    }

    private long ofModel(Method method, Object... arguments) throws ReflectiveOperationException {
        try {
            return ((Number) method.invoke(model, arguments)).longValue();
        } catch (InvocationTargetException thrown) {
            if (thrown.getCause() instanceof Model.Refused) {
                Model.Refused refused = (Model.Refused) thrown.getCause();
                model.refusals[-2 - refused.number]++;
                return refused.answer;
            }
            throw thrown;
        }
    }

    private Object argument(String what) {
        int people = model.status(0);
        int laws = model.status(1);
        switch (what) {
            case "shelf":
                return random.nextInt(3) > 0 ? Integer.valueOf(random.nextInt(4)) : between(0, 7);
            case "sort":
                return between(0, 4);
            case "size":
                return random.nextBoolean() ? between(0, 6) : between(0, 40);
            case "index":
                return random.nextBoolean() ? between(0, 5) : between(0, 39);
            case "part":
                return between(0, 4);
            case "value":
                return value();
            case "kind":
                return between(0, 5);
            case "a":
                return between(0, 15);
            case "law":
                return between(0, laws - 1);
            case "lawOrNone":
                return between(-1, laws - 1);
            case "person":
            case "place":
                return between(0, people - 1);
            case "fact":
                return between(0, 2);
            case "factTold":
            case "lawFact":
                return between(0, 1);
            case "told":
                return random.nextInt(3) > 0 ? between(1, 9)
                    : random.nextBoolean() ? between(1, 99) : between(0, 999);
            case "letter":
                return between(0, 255);
            case "turns":
                return random.nextInt(3) > 0 ? between(0, 25) : between(0, 999);
            case "turns1":
                return random.nextInt(3) > 0 ? between(1, 25) : between(1, 999);
            case "times":
                return random.nextInt(3) > 0 ? between(1, 6) : between(1, 99);
            case "inTruth":
                return random.nextInt(3) > 0 ? between(1, 9) : between(1, 99);
            case "slate":
                return random.nextInt(3) > 0 ? between(0, 5) : between(0, 40);
            case "cards":
                return between(2, 52);
            case "card":
                return random.nextBoolean() ? between(0, 7) : between(0, 51);
            case "shuffle":
                return between(-1, 5);
            case "way":
                return random.nextBoolean();
            case "any":
                return random.nextInt();
            case "status":
                return between(0, 17);
            default:
                throw new IllegalStateException(what);
        }
    }

    private int between(int least, int most) {
        int drawn = random.nextInt(edginess);
        if (drawn == 0) {
            int[] wrong = {least - 1, most + 1, -1, Integer.MIN_VALUE, Integer.MAX_VALUE,
                -random.nextInt(70), most + random.nextInt(70)};
            return wrong[random.nextInt(wrong.length)];
        }
        if (drawn <= 2) {
            return drawn == 1 ? least : most;
        }
        return least + random.nextInt(Math.max(1, most - least + 1));
    }

    private Object value() {
        int people = model.status(0);
        switch (random.nextInt(6)) {
            case 0:
                return random.nextLong();
            case 1:
                return (long) random.nextInt(70000) - 35000;
            case 2:
                return (1L << random.nextInt(64)) + random.nextInt(3) - 1;
            default:
                return (long) random.nextInt(Math.max(1, people));
        }
    }

    /** A shelf with a slate that is right or nearly so, or with a row that people might stand in. */
    private void tellSlate() throws ReflectiveOperationException {
        int people = model.status(0);
        int s = random.nextInt(4);
        int n = random.nextBoolean() ? people : random.nextInt(12);
        call("row", s, random.nextInt(4), n);
        List<Integer> shuffledPeople = new ArrayList<>();
        for (int person = 0; person < people; person++) {
            shuffledPeople.add(random.nextInt(shuffledPeople.size() + 1), person);
        }
        boolean isRow = people > 0 && random.nextInt(3) == 0;
        for (int i = 0; i < n; i++) {
            long told = isRow ? shuffledPeople.get(i % people) : ofThought(i + 1);
            call("set", s, i, random.nextInt(30) == 0 ? told + 1 : told);
        }
        String[] asked = {"judge", "fits", "pushed", "after"};
        for (String name : asked) {
            call(name, s, n);
        }
        call("fewest", s);
        if (people > 1) {
            call("moves", random.nextInt(people), random.nextInt(people));
            call("judge", s, n);
            call("pushed", s, n);
            call("fewest", s);
        }
    }

    private long ofThought(int n) {
        try {
            return model.served(n);
        } catch (Model.Refused refused) {
            return 0;
        }
    }

    private void fillTape() throws ReflectiveOperationException {
        if (random.nextInt(6) > 0) {
            return;
        }
        int bytes = 245 + random.nextInt(8);
        boolean isBlank = random.nextBoolean();
        for (int i = 0; i < bytes; i++) {
            call("feed", isBlank ? 32 : 32 + random.nextInt(90));
        }
        call("shop");
    }

    private void readShop() throws ReflectiveOperationException {
        StringBuilder text = new StringBuilder();
        int statements = 1 + random.nextInt(4);
        for (int i = 0; i < statements; i++) {
            text.append(i > 0 ? blanks() + ";" + blanks() : blanks()).append(statement());
        }
        if (random.nextInt(3) == 0) {
            int place = random.nextInt(text.length() + 1);
            String odd = ";; 0129az#A\0\u00ff";
            switch (random.nextInt(3)) {
                case 0 -> text.insert(place, odd.charAt(random.nextInt(odd.length())));
                case 1 -> text.setLength(place);
                default -> text.deleteCharAt(Math.min(place, text.length() - 1));
            }
        }
        for (char letter : text.toString().toCharArray()) {
            call("feed", (int) letter);
        }
        call("shop");
        for (int what = 0; what <= 8; what++) {
            call("status", what);
        }
    }

    private String blanks() {
        return " ".repeat(Math.max(0, random.nextInt(4) - 1));
    }

    private String statement() {
        int people = model.status(0);
        int laws = model.status(1);
        String gap = random.nextInt(5) == 0 ? "" : " ";
        String between = random.nextInt(9) == 0 ? "  " : " ";
        switch (random.nextInt(8)) {
            case 0:
                return "people" + gap + number(1, Math.max(1, Math.min(3, 17 - people)));
            case 1:
            case 2:
                return "law" + gap + number(0, 5) + between + number(0, 15);
            case 3:
                return "use" + gap + number(0, laws);
            case 4:
                return "serve" + gap + number(1, 99);
            case 5:
                return "let" + gap + number(0, people - 2);
            case 6:
                return "leave" + gap + number(people - 1, people - 1);
            default:
                return "count" + gap + number(0, people - 1) + between + number(0, 999);
        }
    }

    private String number(int least, int most) {
        int n = random.nextInt(25) == 0 ? most + 1 : least + random.nextInt(Math.max(1, most - least + 1));
        String digits = Integer.toString(Math.max(0, n));
        return random.nextInt(12) == 0 ? "0" + digits : digits;
    }
}
