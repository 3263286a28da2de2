import java.lang.reflect.InvocationTargetException;
import java.lang.reflect.Method;
import java.lang.reflect.Modifier;
import java.util.ArrayList;
import java.util.List;
import java.util.Map;
import java.util.TreeMap;
import java.util.function.Consumer;
import java.util.function.Supplier;

/** What the tests by hand share: rosters to begin with, views of a roster, and the count of wrong answers. */
abstract class TestBase {
    static final int MIN = Integer.MIN_VALUE;
    static final int MAX = Integer.MAX_VALUE;
    static final String NOTHING = "nothing";
    static final String BOUNDS = "IndexOutOfBoundsException";
    static final String NO_SUCH = "NoSuchElementException";
    static final String ARGUMENT = "IllegalArgumentException";
    static final String STATE = "IllegalStateException";
    static final String UNSUPPORTED = "UnsupportedOperationException";
    static final String ARITHMETIC = "ArithmeticException";

    // Beside the next numbers and the ends of int there are those that come back to 0 when taken 8 or 4 times.
    static final int[] NO_DAY = {-1, 8, 9, 16, MIN, MAX, 1 << 29, 1 << 30};
    static final int[] NO_PERSON_OF_2 = {-1, 2, 3, 4, MIN, MAX, 1 << 29, 1 << 30};
    static final int[] NO_PERSON_OF_4 = {-1, 4, 5, MIN, MAX, 1 << 29, 1 << 30};
    static final int[] NO_SHIFT_OF_2 = {-1, 2, 3, MIN, MAX, 1 << 30};
    static final int[] NO_SHIFT_OF_3 = {-1, 3, 4, MIN, MAX, 1 << 30};

    private static final int BREACHES_TOLD = 24;

    private static String running = "";
    private static int wrong = 0;

    /** Runs every test of a class, that is, every static method that takes and returns nothing, and exits. */
    static void runAll(Class<?> owner) {
        Map<String, Method> tests = new TreeMap<>();
        for (Method method : owner.getDeclaredMethods()) {
            if (Modifier.isStatic(method.getModifiers()) && method.getParameterCount() == 0
                    && method.getReturnType() == void.class && !method.isSynthetic()) {
                tests.put(method.getName(), method);
            }
        }
        tests.forEach(TestBase::runOne);
        System.out.println(owner.getName() + ": " + tests.size() + " tests, " + wrong + " wrong answers");
        System.exit(wrong == 0 && !tests.isEmpty() ? 0 : 1);
    }

    private static void runOne(String name, Method test) {
        running = name;
        try {
            test.setAccessible(true);
            test.invoke(null);
        } catch (InvocationTargetException e) {
            wrong++;
            System.out.println(name + ": ended by " + e.getCause());
        } catch (IllegalAccessException e) {
            wrong++;
            System.out.println(name + ": " + e);
        }
    }

    static void due(Object got, Object want) {
        if (!got.equals(want)) {
            wrong++;
            System.out.println(running + line() + ": answered " + got + ", due is " + want);
        }
    }

    private static String line() {
        for (StackTraceElement element : new Throwable().getStackTrace()) {
            if (element.getMethodName().equals(running)) {
                return " line " + element.getLineNumber();
            }
        }
        return "";
    }

    static String thrown(Runnable call) {
        try {
            call.run();
            return NOTHING;
        } catch (RuntimeException e) {
            return e.getClass().getSimpleName();
        }
    }

    static String answer(Supplier<Object> call) {
        try {
            return String.valueOf(call.get());
        } catch (RuntimeException e) {
            return e.getClass().getSimpleName();
        }
    }

    /** The call on a new object throws just this exception, and afterwards all answers are as without the call. */
    static void refuses(Supplier<Rosterproof> maker, String exception, Consumer<Rosterproof> call) {
        Rosterproof called = maker.get();
        due(thrown(() -> call.accept(called)), exception);
        due(everything(called), everything(maker.get()));
    }

    /** The same on a busy roster, which has 2 persons and 2 shifts. */
    static void refuses(String exception, Consumer<Rosterproof> call) {
        refuses(TestBase::busy, exception, call);
    }

    /** The call on a new object throws nothing, and afterwards all answers are as without the call. */
    static void changesNothing(Supplier<Rosterproof> maker, Consumer<Rosterproof> call) {
        refuses(maker, NOTHING, call);
    }

    /** Returns all that the object's answers tell, in some 280 calls; the object is of no use behind it. */
    static String everything(Rosterproof x) {
        StringBuilder told = new StringBuilder(changes(x)).append('\n').append(list(x)).append('\n');
        for (int person = 0; person < 4; person++) {
            int number = person;
            told.append(row(x, number)).append(answer(() -> x.peak(number))).append(' ');
            told.append(answer(() -> x.peakByAdding(number))).append(' ');
            told.append(answer(() -> x.longestNights(number))).append(' ');
            told.append(answer(() -> x.longestByRows(number))).append(' ');
            told.append(answer(() -> x.workShare(number))).append(' ');
            told.append(answer(() -> x.meanRest(number))).append('\n');
        }
        told.append(answer(x::minutes)).append(' ').append(answer(x::isSound)).append(' ');
        told.append(answer(x::mostBreaches)).append(' ');
        told.append(answer(x::leastChanges)).append(' ').append(answer(x::leastByTrial)).append('\n');
        return told.append(absencesAndDemands(x)).append(rulesAndShifts(x)).append(skillsAndNumbers(x)).toString();
    }

    private static StringBuilder absencesAndDemands(Rosterproof x) {
        StringBuilder told = new StringBuilder();
        for (int day = 0; day < 8; day++) {
            int on = day;
            for (int person = 0; person < 4; person++) {
                int number = person;
                told.append(answer(() -> x.setAbsent(number, on, false))).append(' ');
            }
            for (int shift = 0; shift < 3; shift++) {
                int number = shift;
                told.append(answer(() -> x.setDemand(on, number, 0))).append(' ');
            }
        }
        return told.append('\n');
    }

    private static StringBuilder rulesAndShifts(Rosterproof x) {
        StringBuilder told = new StringBuilder();
        for (int day = 0; day < 8; day++) {
            int on = day;
            told.append(answer(() -> x.assign(0, on, 0))).append(' ');
        }
        // With the same shift for each day this sum tells the span.
        told.append(answer(() -> x.peak(0))).append(' ');
        told.append(x.setRest(0)).append(' ').append(x.setNights(8)).append(' ');
        told.append(x.setRun(8)).append(' ').append(x.setHours(1, 6000)).append('\n');
        for (int shift = 0; shift < 3; shift++) {
            int number = shift;
            told.append(answer(() -> x.isNight(number))).append(' ');
            told.append(answer(() -> x.assign(0, 7, number))).append(' ');
            told.append(answer(() -> x.restBefore(0, 7))).append(' ').append(x.minutes()).append('\n');
        }
        return told;
    }

    private static StringBuilder skillsAndNumbers(Rosterproof x) {
        StringBuilder told = new StringBuilder();
        for (int person = 0; person < 4; person++) {
            int number = person;
            for (int shift = 0; shift < 3; shift++) {
                int taught = shift;
                told.append(answer(() -> x.teach(number, taught))).append(' ');
            }
        }
        told.append(answer(x::addPerson)).append(' ').append(answer(() -> x.addShift(0, 1))).append(' ');
        return told.append(answer(x::mend)).append(' ').append(answer(x::minutes));
    }

    /** Returns the shifts that a person has, a sign for each day. */
    static String row(Rosterproof x, int person) {
        StringBuilder row = new StringBuilder();
        for (int day = 0; day < 8; day++) {
            int on = day;
            String shift = answer(() -> x.shiftOf(person, on));
            row.append(shift.equals("-1") ? "." : shift);
        }
        return row.append(' ').toString();
    }

    /** Returns the number of breaches if there are many, and the first ones, each as its kind, person, day, shift. */
    static String list(Rosterproof x) {
        List<String> list = new ArrayList<>();
        int number = x.breaches();
        for (int i = 0; i < number && i < BREACHES_TOLD; i++) {
            list.add("" + x.breachKind(i) + " " + x.breachPerson(i) + " " + x.breachDay(i) + " " + x.breachShift(i));
        }
        return (number > BREACHES_TOLD ? number + ": " : "") + String.join(", ", list);
    }

    /** Returns the changes of the last mend(), each as its cell and value. */
    static String changes(Rosterproof x) {
        List<String> changes = new ArrayList<>();
        for (int i = 0; i < 3; i++) {
            int index = i;
            String cell = answer(() -> x.changedCell(index));
            String value = answer(() -> x.changedValue(index));
            if (!cell.equals(NO_SUCH) || !value.equals(NO_SUCH)) {
                changes.add(cell + "=" + value);
            }
        }
        return String.join(" ", changes);
    }

    /** Persons with the skill for each of the shifts, which are given by their starts and lengths. */
    static Rosterproof skilled(int persons, int... shifts) {
        Rosterproof x = new Rosterproof();
        for (int i = 0; i < shifts.length; i += 2) {
            x.addShift(shifts[i], shifts[i + 1]);
        }
        for (int person = 0; person < persons; person++) {
            x.addPerson();
            for (int shift = 0; shift < shifts.length / 2; shift++) {
                x.teach(person, shift);
            }
        }
        return x;
    }

    /** The same, with no breach from the rest, the nights, the run or the hours. */
    static Rosterproof easy(int persons, int... shifts) {
        Rosterproof x = skilled(persons, shifts);
        x.setRest(0);
        x.setNights(8);
        x.setRun(8);
        x.setHours(8, 6000);
        return x;
    }

    /** Two persons; shift 0 is by day, 8 to 16, shift 1 by night, 22 to 7. */
    static Rosterproof pair() {
        return skilled(2, 480, 480, 1320, 540);
    }

    /** Gives a person a shift for each day whose sign is a digit. */
    static Rosterproof fill(Rosterproof x, int person, String shifts) {
        for (int day = 0; day < shifts.length(); day++) {
            if (shifts.charAt(day) != '.') {
                x.assign(person, day, shifts.charAt(day) - '0');
            }
        }
        return x;
    }

    /** Two persons whose roster has breaches, an absence, a demand and a mended change behind it. */
    static Rosterproof busy() {
        Rosterproof x = pair();
        x.assign(0, 0, 1);
        x.assign(0, 1, 0);
        x.mend();
        x.assign(1, 6, 1);
        x.assign(1, 7, 0);
        x.setAbsent(1, 7, true);
        x.setAbsent(0, 6, true);
        x.setDemand(3, 1, 2);
        return x;
    }

    /** Four persons and three shifts, everything given and everything against the rules: 196 breaches. */
    static Rosterproof full() {
        Rosterproof x = new Rosterproof();
        x.addShift(1439, 720);
        x.addShift(0, 1);
        x.addShift(0, 720);
        x.setRest(721);
        x.setNights(1);
        x.setRun(1);
        x.setHours(1, 0);
        for (int person = 0; person < 4; person++) {
            x.addPerson();
            fill(x, person, "00000000");
            for (int day = 0; day < 8; day++) {
                x.setAbsent(person, day, true);
            }
        }
        for (int day = 0; day < 8; day++) {
            for (int shift = 0; shift < 3; shift++) {
                x.setDemand(day, shift, 4);
            }
        }
        return x;
    }

    /** Four persons; the last one has shifts that it cannot do. */
    static Rosterproof unskilled(String shifts) {
        Rosterproof x = skilled(4);
        x.addShift(480, 480);
        return fill(x, 3, shifts);
    }

    /** Four persons that are free; on day 2 so many of them are asked for by day. */
    static Rosterproof demanding(int persons) {
        Rosterproof x = skilled(4, 480, 480, 1320, 540);
        x.setDemand(2, 0, persons);
        return x;
    }

    /** Both ways answer this number, -1 for an exception, and change nothing; mend() makes these changes. */
    static void least(Supplier<Rosterproof> maker, int want, String changes) {
        if (want < 0) {
            refuses(maker, NO_SUCH, Rosterproof::leastChanges);
            refuses(maker, NO_SUCH, Rosterproof::leastByTrial);
            refuses(maker, NO_SUCH, Rosterproof::mend);
            due(maker.get().isSound(), true);
            return;
        }
        changesNothing(maker, x -> due(x.leastChanges(), want));
        changesNothing(maker, x -> due(x.leastByTrial(), want));
        changesNothing(maker, x -> due(x.isSound(), true));
        Rosterproof x = maker.get();
        due(x.mend(), want);
        due(changes(x), changes);
        due(x.breaches(), 0);
    }
}
