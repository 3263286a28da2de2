import java.io.IOException;
import java.lang.reflect.Constructor;
import java.lang.reflect.Field;
import java.lang.reflect.Method;
import java.lang.reflect.Modifier;
import java.nio.file.Files;
import java.nio.file.Path;
import java.util.ArrayList;
import java.util.List;
import java.util.Set;
import java.util.TreeSet;

/** The class has the document's face and no other, and keeps to those rules of LANGUAGE.md that are easy to see. */
public final class FaceTest {
    private static final String[] FACE = {
        "int addPerson() throws IllegalStateException",
        "int addShift(int,int) throws IllegalArgumentException,IllegalStateException",
        "boolean isNight(int) throws NoSuchElementException",
        "boolean teach(int,int) throws IndexOutOfBoundsException,NoSuchElementException",
        "int setRest(int) throws IllegalArgumentException",
        "int setNights(int) throws IllegalArgumentException",
        "int setRun(int) throws IllegalArgumentException",
        "int setHours(int,int) throws IllegalArgumentException",
        "int setDemand(int,int,int) throws IndexOutOfBoundsException,NoSuchElementException,IllegalArgumentException",
        "int assign(int,int,int) throws IndexOutOfBoundsException,NoSuchElementException",
        "int free(int,int) throws IndexOutOfBoundsException,IllegalStateException",
        "boolean setAbsent(int,int,boolean) throws IndexOutOfBoundsException",
        "int shiftOf(int,int) throws IndexOutOfBoundsException",
        "int restBefore(int,int) throws IndexOutOfBoundsException,NoSuchElementException",
        "int longestNights(int) throws IndexOutOfBoundsException",
        "int longestByRows(int) throws IndexOutOfBoundsException",
        "int peak(int) throws IndexOutOfBoundsException",
        "int peakByAdding(int) throws IndexOutOfBoundsException",
        "int breaches()",
        "char breachKind(int) throws NoSuchElementException",
        "int breachPerson(int) throws NoSuchElementException",
        "int breachDay(int) throws NoSuchElementException",
        "int breachShift(int) throws NoSuchElementException",
        "int mostBreaches() throws NoSuchElementException",
        "int swap(int,int,int) throws IndexOutOfBoundsException,IllegalArgumentException,UnsupportedOperationException",
        "int partner(int,int) throws IndexOutOfBoundsException,NoSuchElementException",
        "int leastChanges() throws NoSuchElementException",
        "int leastByTrial() throws NoSuchElementException",
        "int mend() throws NoSuchElementException",
        "int changedCell(int) throws NoSuchElementException",
        "int changedValue(int) throws NoSuchElementException",
        "long minutes()",
        "float workShare(int) throws IndexOutOfBoundsException",
        "double meanRest(int) throws IndexOutOfBoundsException,ArithmeticException",
        "boolean isSound()",
    };

    private static final String[] FORBIDDEN_WORDS = {
        "->", "::", "try", "catch", "finally", "synchronized", "assert", "instanceof", "static {", "Object",
        "System.", "Integer.MAX_VALUE", "Integer.MIN_VALUE", "Long.MAX_VALUE", "Long.MIN_VALUE", "Exact(",
        "java.io", "java.time", "Random", "Thread", "getMessage", "equals", "hashCode", "toString",
    };

    private static int wrong = 0;

    private static void check(boolean isRight, String what) {
        if (!isRight) {
            wrong++;
            System.out.println("FaceTest: " + what);
        }
    }

    private static String names(Class<?>[] types) {
        List<String> names = new ArrayList<>();
        for (Class<?> type : types) {
            names.add(type.getSimpleName());
        }
        return String.join(",", names);
    }

    private static String signature(Method method) {
        String thrown = names(method.getExceptionTypes());
        return method.getReturnType().getSimpleName() + " " + method.getName() + "("
                + names(method.getParameterTypes()) + ")" + (thrown.isEmpty() ? "" : " throws " + thrown);
    }

    private static Set<String> checkMethods() {
        Set<String> found = new TreeSet<>();
        Set<String> publicNames = new TreeSet<>();
        for (Method method : Rosterproof.class.getDeclaredMethods()) {
            int modifiers = method.getModifiers();
            if (Modifier.isPublic(modifiers)) {
                found.add(signature(method));
                publicNames.add(method.getName());
                check(!Modifier.isStatic(modifiers), method + " is static");
            } else {
                check(Modifier.isPrivate(modifiers), method + " is not private");
            }
        }
        check(found.equals(new TreeSet<>(List.of(FACE))), "the public methods are " + found);
        return publicNames;
    }

    private static void checkFields(Class<?> owner) {
        int count = 0;
        for (Field field : owner.getDeclaredFields()) {
            int modifiers = field.getModifiers();
            check(Modifier.isPrivate(modifiers), field + " is not private");
            check(!Modifier.isStatic(modifiers) || Modifier.isFinal(modifiers), field + " is static and not final");
            count += Modifier.isStatic(modifiers) ? 0 : 1;
        }
        check(count <= 20, owner + " has " + count + " fields");
    }

    private static void checkNested(Set<String> publicNames) {
        Class<?>[] nested = Rosterproof.class.getDeclaredClasses();
        check(nested.length < 12, "there are " + nested.length + " classes inside");
        for (Class<?> owner : nested) {
            int modifiers = owner.getModifiers();
            check(Modifier.isStatic(modifiers), owner + " is not static");
            check(!Modifier.isPublic(modifiers) && !Modifier.isProtected(modifiers), owner + " is seen from outside");
            checkFields(owner);
            for (Method method : owner.getDeclaredMethods()) {
                check(!publicNames.contains(method.getName()), method + " has the name of a public one");
                check(method.getParameterCount() <= 7, method + " takes too much");
            }
        }
        for (Method method : Rosterproof.class.getDeclaredMethods()) {
            boolean isTwice = Modifier.isPrivate(method.getModifiers()) && publicNames.contains(method.getName());
            check(!isTwice, method + " has the name of a public one");
        }
    }

    private static void checkText() throws IOException {
        String text = Files.readString(Path.of("src/main/java/Rosterproof.java"));
        for (String word : FORBIDDEN_WORDS) {
            check(!text.contains(word), "the program contains " + word);
        }
        for (String line : text.split("\n")) {
            boolean isStrange = line.startsWith("package")
                    || line.startsWith("import") && !line.equals("import java.util.NoSuchElementException;");
            check(!isStrange, "a line of the program is: " + line);
        }
        check(text.chars().allMatch(sign -> sign < 128), "the program holds a sign above 127");
    }

    public static void main(String[] args) throws IOException {
        int modifiers = Rosterproof.class.getModifiers();
        check(Modifier.isPublic(modifiers) && Modifier.isFinal(modifiers), "the class is not public and final");
        Constructor<?>[] constructors = Rosterproof.class.getDeclaredConstructors();
        check(constructors.length == 1, "there is not one constructor");
        check(Modifier.isPublic(constructors[0].getModifiers()) && constructors[0].getParameterCount() == 0,
                "the constructor is " + constructors[0]);
        checkNested(checkMethods());
        checkFields(Rosterproof.class);
        checkText();
        System.exit(wrong == 0 ? 0 : 1);
    }
}
