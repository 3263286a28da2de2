import java.lang.reflect.InvocationTargetException;
import java.lang.reflect.Method;
import java.util.ArrayList;
import java.util.List;
import java.util.Map;
import java.util.Random;
import java.util.TreeMap;

/** Random runs of calls, the same in every test: each answer and all that can be seen afterwards is as in Model. */
public final class ModelTest {
    private static final int RUNS = 1500;
    private static final int MOST_CALLS = 512;
    // A letter for each argument: person, day, shift, number of a breach, number of a change, and ranges.
    private static final String[] CALLS = {
        "addPerson ", "addShift tl", "isNight s", "teach ps", "setRest r", "setNights 8", "setRun 8", "setHours 8h",
        "setDemand ds4", "assign pds", "assign pds", "assign pds", "free pd", "setAbsent pdb", "shiftOf pd",
        "restBefore pd", "longestNights p", "longestByRows p", "peak p", "peakByAdding p", "breaches ",
        "breachKind i", "breachPerson i", "breachDay i", "breachShift i", "mostBreaches ", "swap ppd", "swap ppd",
        "swap ppd", "partner pd", "partner pd", "leastChanges ", "leastByTrial ", "mend ", "changedCell c",
        "changedValue c", "minutes ", "workShare p", "meanRest p", "isSound ",
    };
    private static final int[] STRANGE = {-1, Integer.MIN_VALUE, Integer.MAX_VALUE, 1 << 29, 1 << 30, -8, 32, 100};

    private static final Map<String, Method> PROGRAM = methodsOf(Rosterproof.class);
    private static final Map<String, Method> MODEL = methodsOf(Model.class);
    private static final Map<String, Integer> ANSWERS = new TreeMap<>();

    private final Random random;
    private final Rosterproof program = new Rosterproof();
    private final Model model = new Model();
    private final List<String> log = new ArrayList<>();
    private int persons = 0;
    private int shifts = 0;
    private boolean isWrong = false;

    private ModelTest(int seed) {
        random = new Random(seed);
    }

    private static Map<String, Method> methodsOf(Class<?> owner) {
        Map<String, Method> methods = new TreeMap<>();
        for (Method method : owner.getDeclaredMethods()) {
            if (java.lang.reflect.Modifier.isPublic(method.getModifiers())) {
                methods.put(method.getName(), method);
            }
        }
        return methods;
    }

    private static String answer(Object object, Method method, Object[] arguments) {
        try {
            return String.valueOf(method.invoke(object, arguments));
        } catch (InvocationTargetException e) {
            return "throws." + e.getCause().getClass().getSimpleName();
        } catch (IllegalAccessException e) {
            return e.toString();
        }
    }

    private String call(String name, Object... arguments) {
        if (isWrong || log.size() >= MOST_CALLS) {
            return "";
        }
        String got = answer(program, PROGRAM.get(name), arguments);
        String due = answer(model, MODEL.get(name), arguments);
        log.add(name + java.util.Arrays.toString(arguments) + " = " + got);
        String kind = name + " " + (due.startsWith("throws") ? due : name.startsWith("least") ? due : "answer");
        ANSWERS.merge(kind, 1, Integer::sum);
        if (!got.equals(due)) {
            isWrong = true;
            System.out.println(String.join("\n", log) + "\n  due is " + due);
        }
        return got;
    }

    private int oneBelow(int bound) {
        return random.nextInt(25) == 0 || bound == 0
                ? random.nextBoolean() ? bound : STRANGE[random.nextInt(STRANGE.length)]
                : random.nextInt(bound);
    }

    private int oneFrom(int least, int most) {
        return random.nextInt(8) == 0 ? most - random.nextInt(2) : least + oneBelow(most - least + 1);
    }

    private Object argument(char letter) {
        switch (letter) {
            case 'p':
                return oneBelow(persons);
            case 'd':
                return oneBelow(8);
            case 's':
                return oneBelow(shifts);
            case 'i':
                return oneBelow(random.nextInt(4) == 0 ? 40 : model.breaches());
            case 'c':
                return oneBelow(2);
            case 't':
                return oneFrom(0, 1439);
            case 'l':
                return oneFrom(1, 720);
            case 'r':
                return oneFrom(0, 2000);
            case '8':
                return oneFrom(1, 8);
            case 'h':
                return oneFrom(0, 6000);
            case '4':
                return random.nextInt(5) == 0 ? oneBelow(5) : random.nextInt(2);
            default:
                return random.nextInt(4) == 0;
        }
    }

    private void callOne(String spec) {
        int space = spec.indexOf(' ');
        Object[] arguments = new Object[spec.length() - space - 1];
        for (int i = 0; i < arguments.length; i++) {
            arguments[i] = argument(spec.charAt(space + 1 + i));
        }
        String got = call(spec.substring(0, space), arguments);
        if (got.startsWith("throws")) {
            return;
        }
        persons += spec.startsWith("addPerson") ? 1 : 0;
        shifts += spec.startsWith("addShift") ? 1 : 0;
    }

    private void build() {
        int wantedPersons = random.nextInt(10) == 0 ? random.nextInt(5) : 1 + random.nextInt(4);
        int wantedShifts = random.nextInt(10) == 0 ? random.nextInt(4) : 1 + random.nextInt(3);
        while (persons < wantedPersons && !isWrong) {
            callOne("addPerson ");
        }
        for (int tries = 0; shifts < wantedShifts && tries < 20; tries++) {
            callOne("addShift tl");
        }
        int skills = random.nextInt(3) == 0 ? 70 : 97;
        for (int person = 0; person < persons; person++) {
            for (int shift = 0; shift < shifts; shift++) {
                if (random.nextInt(100) < skills) {
                    call("teach", person, shift);
                }
            }
        }
    }

    private void setRules() {
        if (random.nextInt(4) > 0) {
            call("setRest", random.nextInt(3) == 0 ? 2000 : random.nextInt(800));
        }
        if (random.nextInt(3) == 0) {
            call("setNights", 1 + random.nextInt(8));
        }
        if (random.nextInt(3) == 0) {
            call("setRun", 1 + random.nextInt(8));
        }
        if (random.nextInt(3) > 0) {
            call("setHours", 1 + random.nextInt(8), random.nextInt(5) == 0 ? random.nextInt(1000) : 6000);
        }
    }

    private void fill() {
        int density = random.nextInt(101);
        int[][] staff = new int[8][3];
        for (int person = 0; person < persons; person++) {
            for (int day = 0; day < 8 && shifts > 0; day++) {
                if (random.nextInt(100) < density) {
                    int shift = random.nextInt(shifts);
                    staff[day][shift]++;
                    call("assign", person, day, shift);
                }
            }
        }
        int mess = random.nextInt(3);
        for (int day = 0; day < 8; day++) {
            for (int shift = 0; shift < shifts; shift++) {
                int more = random.nextInt(16) < mess ? 1 : 0;
                if (random.nextInt(3) == 0 || more == 1) {
                    call("setDemand", day, shift, Math.min(4, staff[day][shift] + more));
                }
            }
        }
        for (int i = random.nextInt(2) * random.nextInt(5); i > 0 && persons > 0; i--) {
            call("setAbsent", random.nextInt(persons), random.nextInt(8), true);
        }
    }

    private void lookAtAll() {
        for (int person = 0; person < persons; person++) {
            for (int day = 0; day < 8; day++) {
                call("shiftOf", person, day);
            }
        }
        int found = model.breaches();
        for (int index = 0; index <= found && index < 40; index++) {
            call("breachKind", index);
            call("breachPerson", index);
            call("breachDay", index);
            call("breachShift", index);
        }
        for (int index = 0; index < 3; index++) {
            call("changedCell", index);
            call("changedValue", index);
        }
    }

    private boolean run() {
        build();
        setRules();
        fill();
        call("leastChanges");
        call("leastByTrial");
        for (int person = 0; person < persons; person++) {
            call("partner", person, random.nextInt(8));
        }
        if (random.nextBoolean()) {
            call("mend");
        }
        for (int i = random.nextInt(60); i > 0; i--) {
            callOne(CALLS[random.nextInt(CALLS.length)]);
        }
        lookAtAll();
        call("isSound");
        return !isWrong;
    }

    public static void main(String[] args) {
        int wrong = 0;
        for (int seed = 0; seed < RUNS && wrong < 3; seed++) {
            wrong += new ModelTest(seed).run() ? 0 : 1;
        }
        if (args.length > 0) {
            ANSWERS.forEach((kind, count) -> System.out.println(count + "  " + kind));
        }
        System.exit(wrong == 0 ? 0 : 1);
    }
}
