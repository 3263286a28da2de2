import java.util.ArrayList;
import java.util.List;
import java.util.NoSuchElementException;

/** The document, written down a second time and as plainly as can be, for ModelTest to compare with. */
public final class Model {
    private final List<int[]> shifts = new ArrayList<>();
    private final int[][] has = new int[4][8];
    private final boolean[][] absent = new boolean[4][8];
    private final boolean[][] skill = new boolean[4][3];
    private final int[][] demand = new int[8][3];
    private int persons = 0;
    private int rest = 660;
    private int nights = 3;
    private int run = 6;
    private int span = 7;
    private int limit = 2880;
    private List<int[]> made = new ArrayList<>();

    public Model() {
        for (int[] row : has) {
            java.util.Arrays.fill(row, -1);
        }
    }

    private void person(int person) {
        if (person < 0 || person >= persons) {
            throw new IndexOutOfBoundsException();
        }
    }

    private void day(int day) {
        if (day < 0 || day > 7) {
            throw new IndexOutOfBoundsException();
        }
    }

    private void shift(int shift) {
        if (shift < 0 || shift >= shifts.size()) {
            throw new NoSuchElementException();
        }
    }

    private static void range(int number, int least, int most) {
        if (number < least || number > most) {
            throw new IllegalArgumentException();
        }
    }

    public int addPerson() {
        if (persons == 4) {
            throw new IllegalStateException();
        }
        return persons++;
    }

    public int addShift(int start, int length) {
        range(start, 0, 1439);
        range(length, 1, 720);
        if (shifts.size() == 3) {
            throw new IllegalStateException();
        }
        shifts.add(new int[] {start, length});
        return shifts.size() - 1;
    }

    public boolean isNight(int shift) {
        shift(shift);
        int start = shifts.get(shift)[0];
        return start <= 1620 && start + shifts.get(shift)[1] > 1620;
    }

    public boolean teach(int person, int shift) {
        person(person);
        shift(shift);
        boolean isNew = !skill[person][shift];
        skill[person][shift] = true;
        return isNew;
    }

    public int setRest(int minutes) {
        range(minutes, 0, 2000);
        int before = rest;
        rest = minutes;
        return before;
    }

    public int setNights(int number) {
        range(number, 1, 8);
        int before = nights;
        nights = number;
        return before;
    }

    public int setRun(int days) {
        range(days, 1, 8);
        int before = run;
        run = days;
        return before;
    }

    public int setHours(int newSpan, int newLimit) {
        range(newSpan, 1, 8);
        range(newLimit, 0, 6000);
        int before = limit;
        span = newSpan;
        limit = newLimit;
        return before;
    }

    public int setDemand(int day, int shift, int number) {
        day(day);
        shift(shift);
        range(number, 0, 4);
        int before = demand[day][shift];
        demand[day][shift] = number;
        return before;
    }

    public int assign(int person, int day, int shift) {
        person(person);
        day(day);
        shift(shift);
        int before = has[person][day];
        has[person][day] = shift;
        return before;
    }

    public int free(int person, int day) {
        person(person);
        day(day);
        int before = has[person][day];
        if (before < 0) {
            throw new IllegalStateException();
        }
        has[person][day] = -1;
        return before;
    }

    public boolean setAbsent(int person, int day, boolean isAbsent) {
        person(person);
        day(day);
        boolean before = absent[person][day];
        absent[person][day] = isAbsent;
        return before;
    }

    public int shiftOf(int person, int day) {
        person(person);
        day(day);
        return has[person][day];
    }

    public int restBefore(int person, int day) {
        person(person);
        day(day);
        for (int earlier = day - 1; earlier >= 0 && has[person][day] >= 0; earlier--) {
            if (has[person][earlier] >= 0) {
                int[] first = shifts.get(has[person][earlier]);
                int[] second = shifts.get(has[person][day]);
                return (day - earlier) * 1440 + second[0] - first[0] - first[1];
            }
        }
        throw new NoSuchElementException();
    }

    private boolean isNightOn(int person, int day) {
        return has[person][day] >= 0 && isNight(has[person][day]);
    }

    public int longestNights(int person) {
        person(person);
        for (int length = 8; length > 0; length--) {
            for (int first = 0; first + length <= 8; first++) {
                boolean areAll = true;
                for (int day = first; day < first + length; day++) {
                    areAll = areAll && isNightOn(person, day);
                }
                if (areAll) {
                    return length;
                }
            }
        }
        return 0;
    }

    public int longestByRows(int person) {
        return longestNights(person);
    }

    private int sumFrom(int person, int first) {
        int sum = 0;
        for (int day = first; day < first + span; day++) {
            sum += has[person][day] < 0 ? 0 : shifts.get(has[person][day])[1];
        }
        return sum;
    }

    public int peak(int person) {
        person(person);
        int most = 0;
        for (int first = 0; first + span - 1 <= 7; first++) {
            most = Math.max(most, sumFrom(person, first));
        }
        return most;
    }

    public int peakByAdding(int person) {
        return peak(person);
    }

    private boolean isBreach(char kind, int person, int day) {
        int shift = has[person][day];
        switch (kind) {
            case 'a':
                return shift >= 0 && absent[person][day];
            case 'k':
                return shift >= 0 && !skill[person][shift];
            case 'r':
                for (int earlier = 0; earlier < day && shift >= 0; earlier++) {
                    if (has[person][earlier] >= 0) {
                        return restBefore(person, day) < rest;
                    }
                }
                return false;
            case 'n':
                for (int back = 0; back <= nights; back++) {
                    if (day - back < 0 || !isNightOn(person, day - back)) {
                        return false;
                    }
                }
                return true;
            case 'w':
                for (int back = 0; back <= run; back++) {
                    if (day - back < 0 || has[person][day - back] < 0) {
                        return false;
                    }
                }
                return true;
            default:
                return day + span - 1 <= 7 && sumFrom(person, day) > limit;
        }
    }

    private int staff(int day, int shift) {
        int count = 0;
        for (int person = 0; person < persons; person++) {
            count += has[person][day] == shift ? 1 : 0;
        }
        return count;
    }

    /** Returns the breaches, each as its kind, person, day and shift; no more than asked for. */
    private List<int[]> list(int most) {
        List<int[]> list = new ArrayList<>();
        for (char kind : "akrnwh".toCharArray()) {
            for (int person = 0; person < persons; person++) {
                for (int day = 0; day < 8; day++) {
                    if (list.size() < most && isBreach(kind, person, day)) {
                        list.add(new int[] {kind, person, day, -1});
                    }
                }
            }
        }
        for (int day = 0; day < 8; day++) {
            for (int shift = 0; shift < shifts.size(); shift++) {
                if (list.size() < most && staff(day, shift) < demand[day][shift]) {
                    list.add(new int[] {'d', -1, day, shift});
                }
            }
        }
        return list;
    }

    private List<int[]> list() {
        return list(Integer.MAX_VALUE);
    }

    public int breaches() {
        return list().size();
    }

    private int[] breach(int index) {
        List<int[]> list = list();
        if (index < 0 || index >= list.size()) {
            throw new NoSuchElementException();
        }
        return list.get(index);
    }

    public char breachKind(int index) {
        return (char) breach(index)[0];
    }

    public int breachPerson(int index) {
        return breach(index)[1];
    }

    public int breachDay(int index) {
        return breach(index)[2];
    }

    public int breachShift(int index) {
        return breach(index)[3];
    }

    public int mostBreaches() {
        int[] counts = new int[4];
        int most = 0;
        for (int[] breach : list()) {
            if (breach[0] != 'd') {
                counts[breach[1]]++;
                most = Math.max(most, counts[breach[1]]);
            }
        }
        for (int[] breach : list()) {
            if (breach[0] != 'd' && counts[breach[1]] == most) {
                return breach[1];
            }
        }
        throw new NoSuchElementException();
    }

    private void exchange(int person, int other, int day) {
        int shift = has[person][day];
        has[person][day] = has[other][day];
        has[other][day] = shift;
    }

    private static boolean contains(List<int[]> list, int[] sought) {
        for (int[] breach : list) {
            if (java.util.Arrays.equals(breach, sought)) {
                return true;
            }
        }
        return false;
    }

    public int swap(int person, int other, int day) {
        person(person);
        person(other);
        day(day);
        if (person == other) {
            throw new IllegalArgumentException();
        }
        List<int[]> before = list();
        exchange(person, other, day);
        for (int[] breach : list()) {
            if (!contains(before, breach)) {
                exchange(person, other, day);
                throw new UnsupportedOperationException();
            }
        }
        return list().size();
    }

    public int partner(int person, int day) {
        person(person);
        day(day);
        int before = list().size();
        for (int other = 0; other < persons; other++) {
            if (other == person) {
                continue;
            }
            try {
                int after = swap(person, other, day);
                exchange(person, other, day);
                if (after < before) {
                    return other;
                }
            } catch (UnsupportedOperationException e) {
                continue;
            }
        }
        throw new NoSuchElementException();
    }

    /** Returns all changes there are, each as its cell and value. */
    private List<int[]> changes() {
        List<int[]> changes = new ArrayList<>();
        for (int cell = 0; cell < 8 * persons; cell++) {
            for (int value = 0; value <= shifts.size(); value++) {
                if (has[cell / 8][cell % 8] != value - 1) {
                    changes.add(new int[] {cell, value});
                }
            }
        }
        return changes;
    }

    private boolean mends(List<int[]> set) {
        int[] before = new int[set.size()];
        for (int i = 0; i < set.size(); i++) {
            int[] change = set.get(i);
            before[i] = has[change[0] / 8][change[0] % 8];
            has[change[0] / 8][change[0] % 8] = change[1] - 1;
        }
        boolean isLawful = list(1).isEmpty();
        for (int i = 0; i < set.size(); i++) {
            has[set.get(i)[0] / 8][set.get(i)[0] % 8] = before[i];
        }
        return isLawful;
    }

    private static boolean isLess(List<int[]> one, List<int[]> other) {
        for (int i = 0; i < one.size(); i++) {
            for (int part = 0; part < 2; part++) {
                if (one.get(i)[part] != other.get(i)[part]) {
                    return one.get(i)[part] < other.get(i)[part];
                }
            }
        }
        return false;
    }

    // From the last set to the first, so that the order of trying does not stand in for the comparison.
    private List<int[]> least() {
        if (list().isEmpty()) {
            return new ArrayList<>();
        }
        List<int[]> changes = changes();
        List<int[]> best = null;
        for (int i = changes.size() - 1; i >= 0; i--) {
            List<int[]> set = List.of(changes.get(i));
            if (mends(set) && (best == null || isLess(set, best))) {
                best = set;
            }
        }
        for (int i = changes.size() - 1; i >= 0 && (best == null || best.size() == 2); i--) {
            for (int j = changes.size() - 1; j > i; j--) {
                List<int[]> set = List.of(changes.get(i), changes.get(j));
                if (set.get(0)[0] != set.get(1)[0] && mends(set) && (best == null || isLess(set, best))) {
                    best = set;
                }
            }
        }
        if (best == null) {
            throw new NoSuchElementException();
        }
        return best;
    }

    public int leastChanges() {
        return least().size();
    }

    public int leastByTrial() {
        return least().size();
    }

    public int mend() {
        made = least();
        for (int[] change : made) {
            has[change[0] / 8][change[0] % 8] = change[1] - 1;
        }
        return made.size();
    }

    private int[] change(int index) {
        if (index < 0 || index >= made.size()) {
            throw new NoSuchElementException();
        }
        return made.get(index);
    }

    public int changedCell(int index) {
        return change(index)[0];
    }

    public int changedValue(int index) {
        return change(index)[1];
    }

    public long minutes() {
        long sum = 0;
        for (int[] row : has) {
            for (int shift : row) {
                sum += shift < 0 ? 0 : shifts.get(shift)[1];
            }
        }
        return sum;
    }

    public float workShare(int person) {
        person(person);
        int days = 0;
        for (int shift : has[person]) {
            days += shift < 0 ? 0 : 1;
        }
        return (float) days / (float) 8;
    }

    public double meanRest(int person) {
        person(person);
        int sum = 0;
        int days = 0;
        for (int day = 0; day < 8; day++) {
            try {
                sum += restBefore(person, day);
                days++;
            } catch (NoSuchElementException e) {
                continue;
            }
        }
        if (days == 0) {
            throw new ArithmeticException();
        }
        return (double) sum / (double) days;
    }

    public boolean isSound() {
        return true;
    }
}
