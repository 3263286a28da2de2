import java.util.NoSuchElementException;

/** A checker and mender of rosters of at most four persons, three shifts and eight days. */
public final class Rosterproof {
    private static final int DAYS = 8;
    private static final int MAX_PERSONS = 4;
    private static final int MAX_SHIFTS = 3;
    private static final int CELLS = MAX_PERSONS * DAYS;
    private static final int POSTS = DAYS * MAX_SHIFTS;
    private static final int MAX_CHANGES = 2;
    private static final int DAY_MINUTES = 1440;
    private static final int MAX_LENGTH = 720;
    private static final int MAX_REST = 2000;
    private static final int MAX_LIMIT = 6000;
    private static final int NIGHT_MINUTE = DAY_MINUTES + 180;

    private static final int NONE = -1;
    private static final int FREE = 0;
    // A rest can be less than 0 and so be NONE, but it is never less by a whole day.
    private static final int NO_REST = -DAY_MINUTES;

    private static final String KINDS = "akrnwhd";
    private static final int ABSENT = 0;
    private static final int UNSKILLED = 1;
    private static final int REST = 2;
    private static final int NIGHTS = 3;
    private static final int RUN = 4;
    private static final int HOURS = 5;
    private static final int DEMAND = 6;

    private final Shifts shifts = new Shifts();
    private final Rules rules = new Rules();
    private final Roster roster = new Roster();
    private final Measures measures = new Measures(shifts, rules, roster);
    private final Checker checker = new Checker(shifts, rules, roster);
    private final Findings current = new Findings();
    private final Findings exchanged = new Findings();
    private final Mender mender = new Mender(shifts, rules, roster, measures, checker);
    private final Changes made = new Changes();

    public Rosterproof() {
    }

    public int addPerson() throws IllegalStateException {
        if (roster.persons >= MAX_PERSONS) {
            throw new IllegalStateException("there are 4 persons");
        }
        roster.persons++;
        return roster.persons - 1;
    }

    public int addShift(int start, int length) throws IllegalArgumentException, IllegalStateException {
        requireRange(start, 0, DAY_MINUTES - 1);
        requireRange(length, 1, MAX_LENGTH);
        if (shifts.count >= MAX_SHIFTS) {
            throw new IllegalStateException("there are 3 shifts");
        }
        return shifts.append(start, length);
    }

    public boolean isNight(int shift) throws NoSuchElementException {
        requireShift(shift);
        return shifts.holdsNight(shift);
    }

    public boolean teach(int person, int shift) throws IndexOutOfBoundsException, NoSuchElementException {
        requirePerson(person);
        requireShift(shift);
        boolean isNew = !roster.hasSkill(person, shift);
        roster.putSkill(person, shift);
        return isNew;
    }

    public int setRest(int minutes) throws IllegalArgumentException {
        requireRange(minutes, 0, MAX_REST);
        int before = rules.rest;
        rules.rest = minutes;
        return before;
    }

    public int setNights(int nights) throws IllegalArgumentException {
        requireRange(nights, 1, DAYS);
        int before = rules.nights;
        rules.nights = nights;
        return before;
    }

    public int setRun(int days) throws IllegalArgumentException {
        requireRange(days, 1, DAYS);
        int before = rules.run;
        rules.run = days;
        return before;
    }

    public int setHours(int span, int limit) throws IllegalArgumentException {
        requireRange(span, 1, DAYS);
        requireRange(limit, 0, MAX_LIMIT);
        int before = rules.limit;
        rules.span = span;
        rules.limit = limit;
        return before;
    }

    public int setDemand(int day, int shift, int persons)
            throws IndexOutOfBoundsException, NoSuchElementException, IllegalArgumentException {
        requireDay(day);
        requireShift(shift);
        requireRange(persons, 0, MAX_PERSONS);
        int before = rules.demandAt(day, shift);
        rules.putDemand(day, shift, persons);
        return before;
    }

    public int assign(int person, int day, int shift) throws IndexOutOfBoundsException, NoSuchElementException {
        requirePerson(person);
        requireDay(day);
        requireShift(shift);
        int before = roster.shiftAt(person, day);
        roster.put(cellOf(person, day), shift + 1);
        return before;
    }

    public int free(int person, int day) throws IndexOutOfBoundsException, IllegalStateException {
        requirePerson(person);
        requireDay(day);
        int before = roster.shiftAt(person, day);
        if (before == NONE) {
            throw new IllegalStateException("the person is free on the day");
        }
        roster.put(cellOf(person, day), FREE);
        return before;
    }

    public boolean setAbsent(int person, int day, boolean isAbsent) throws IndexOutOfBoundsException {
        requirePerson(person);
        requireDay(day);
        boolean before = roster.isAway(person, day);
        roster.putAway(person, day, isAbsent);
        return before;
    }

    public int shiftOf(int person, int day) throws IndexOutOfBoundsException {
        requirePerson(person);
        requireDay(day);
        return roster.shiftAt(person, day);
    }

    public int restBefore(int person, int day) throws IndexOutOfBoundsException, NoSuchElementException {
        requirePerson(person);
        requireDay(day);
        int rest = measures.restAt(person, day);
        if (rest == NO_REST) {
            throw new NoSuchElementException("no shift for the day, or for no earlier day");
        }
        return rest;
    }

    public int longestNights(int person) throws IndexOutOfBoundsException {
        requirePerson(person);
        return measures.nightsByCounting(person);
    }

    public int longestByRows(int person) throws IndexOutOfBoundsException {
        requirePerson(person);
        return measures.nightsByTryingRows(person);
    }

    public int peak(int person) throws IndexOutOfBoundsException {
        requirePerson(person);
        return measures.sumByMoving(person);
    }

    public int peakByAdding(int person) throws IndexOutOfBoundsException {
        requirePerson(person);
        return measures.sumByAddingAnew(person);
    }

    public int breaches() {
        checker.look(current);
        return current.size();
    }

    public char breachKind(int index) throws NoSuchElementException {
        int kind = kindOf(requireBreach(index));
        return kind >= 0 && kind < KINDS.length() ? KINDS.charAt(kind) : ' ';
    }

    public int breachPerson(int index) throws NoSuchElementException {
        return personOf(requireBreach(index));
    }

    public int breachDay(int index) throws NoSuchElementException {
        return dayOf(requireBreach(index));
    }

    public int breachShift(int index) throws NoSuchElementException {
        return shiftIn(requireBreach(index));
    }

    public int mostBreaches() throws NoSuchElementException {
        checker.look(current);
        int person = current.mostBurdened();
        if (person == NONE) {
            throw new NoSuchElementException("no person has a breach");
        }
        return person;
    }

    public int swap(int person, int other, int day)
            throws IndexOutOfBoundsException, IllegalArgumentException, UnsupportedOperationException {
        requirePerson(person);
        requirePerson(other);
        requireDay(day);
        if (person == other) {
            throw new IllegalArgumentException("both persons are the same");
        }
        checker.look(current);
        int after = sizeAfterExchange(person, other, day);
        if (after == NONE) {
            throw new UnsupportedOperationException("the exchange would bring a breach");
        }
        roster.exchange(person, other, day);
        return after;
    }

    public int partner(int person, int day) throws IndexOutOfBoundsException, NoSuchElementException {
        requirePerson(person);
        requireDay(day);
        checker.look(current);
        int before = current.size();
        for (int other = 0; other < roster.persons; other++) {
            int after = other == person ? NONE : sizeAfterExchange(person, other, day);
            if (after != NONE && after < before) {
                return other;
            }
        }
        throw new NoSuchElementException("no exchange leaves fewer breaches");
    }

    public int leastChanges() throws NoSuchElementException {
        return requireSize(mender.seek(true));
    }

    public int leastByTrial() throws NoSuchElementException {
        return requireSize(mender.seek(false));
    }

    public int mend() throws NoSuchElementException {
        int size = requireSize(mender.seek(false));
        made.size = size;
        for (int index = 0; index < size; index++) {
            made.put(index, mender.found.cellAt(index), mender.found.valueAt(index));
            roster.put(made.cellAt(index), made.valueAt(index));
        }
        return size;
    }

    public int changedCell(int index) throws NoSuchElementException {
        requireChange(index);
        return made.cellAt(index);
    }

    public int changedValue(int index) throws NoSuchElementException {
        requireChange(index);
        return made.valueAt(index);
    }

    public long minutes() {
        long sum = 0L;
        for (int person = 0; person < roster.persons; person++) {
            for (int day = 0; day < DAYS; day++) {
                sum += measures.minutesAt(person, day);
            }
        }
        return sum;
    }

    public float workShare(int person) throws IndexOutOfBoundsException {
        requirePerson(person);
        int worked = 0;
        for (int day = 0; day < DAYS; day++) {
            if (roster.shiftAt(person, day) != NONE) {
                worked++;
            }
        }
        return (float) worked / (float) DAYS;
    }

    public double meanRest(int person) throws IndexOutOfBoundsException, ArithmeticException {
        requirePerson(person);
        int sum = 0;
        int days = 0;
        for (int day = 0; day < DAYS; day++) {
            int rest = measures.restAt(person, day);
            if (rest != NO_REST) {
                sum += rest;
                days++;
            }
        }
        if (days == 0) {
            throw new ArithmeticException("no day has a rest before it");
        }
        return (double) sum / (double) days;
    }

    public boolean isSound() {
        for (int person = 0; person < roster.persons; person++) {
            if (measures.nightsByCounting(person) != measures.nightsByTryingRows(person)
                    || measures.sumByMoving(person) != measures.sumByAddingAnew(person)) {
                return false;
            }
        }
        return mender.seek(true) == mender.seek(false);
    }

    private void requirePerson(int person) throws IndexOutOfBoundsException {
        if (!roster.hasPerson(person)) {
            throw new IndexOutOfBoundsException("no such person");
        }
    }

    private static void requireDay(int day) throws IndexOutOfBoundsException {
        if (day < 0 || day >= DAYS) {
            throw new IndexOutOfBoundsException("no such day");
        }
    }

    private void requireShift(int shift) throws NoSuchElementException {
        if (!shifts.has(shift)) {
            throw new NoSuchElementException("no such shift");
        }
    }

    private static void requireRange(int number, int least, int most) throws IllegalArgumentException {
        if (number < least || number > most) {
            throw new IllegalArgumentException("out of range");
        }
    }

    private void requireChange(int index) throws NoSuchElementException {
        if (index < 0 || index >= made.size) {
            throw new NoSuchElementException("no such change");
        }
    }

    private static int requireSize(int size) throws NoSuchElementException {
        if (size == NONE) {
            throw new NoSuchElementException("no set of at most 2 changes mends the roster");
        }
        return size;
    }

    /** Returns the breach with the number, as breachOf() packs it. */
    private int requireBreach(int index) throws NoSuchElementException {
        checker.look(current);
        int breach = current.breachAt(index);
        if (breach == NONE) {
            throw new NoSuchElementException("no such breach");
        }
        return breach;
    }

    /** Returns how many breaches an exchange would leave, or NONE if it would bring one that current has not. */
    private int sizeAfterExchange(int person, int other, int day) {
        roster.exchange(person, other, day);
        checker.look(exchanged);
        roster.exchange(person, other, day);
        return exchanged.isPartOf(current) ? exchanged.size() : NONE;
    }

    // Outside the roster it is no cell, so that the end of one row is not taken for the next row.
    private static int cellOf(int person, int day) {
        return person >= 0 && person < MAX_PERSONS && day >= 0 && day < DAYS ? person * DAYS + day : NONE;
    }

    /** Returns the number of a day's shift among all of all days, or NONE. */
    private static int postOf(int day, int shift) {
        return day >= 0 && day < DAYS && shift >= 0 && shift < MAX_SHIFTS ? day * MAX_SHIFTS + shift : NONE;
    }

    private static int skillOf(int person, int shift) {
        return person >= 0 && person < MAX_PERSONS && shift >= 0 && shift < MAX_SHIFTS
                ? person * MAX_SHIFTS + shift : NONE;
    }

    private static int breachOf(int kind, int person, int day, int shift) {
        return ((kind * (MAX_PERSONS + 1) + person + 1) * DAYS + day) * (MAX_SHIFTS + 1) + shift + 1;
    }

    private static int shiftIn(int breach) {
        return breach % (MAX_SHIFTS + 1) - 1;
    }

    private static int dayOf(int breach) {
        return breach / (MAX_SHIFTS + 1) % DAYS;
    }

    private static int personOf(int breach) {
        return breach / ((MAX_SHIFTS + 1) * DAYS) % (MAX_PERSONS + 1) - 1;
    }

    private static int kindOf(int breach) {
        return breach / ((MAX_SHIFTS + 1) * DAYS * (MAX_PERSONS + 1));
    }

    /** The shifts, by their numbers; NONE as a shift stands for a free day. */
    private static final class Shifts {
        private final int[] starts = new int[MAX_SHIFTS];
        private final int[] lengths = new int[MAX_SHIFTS];
        private int count = 0;

        boolean has(int shift) {
            return shift >= 0 && shift < count && shift < MAX_SHIFTS;
        }

        int append(int start, int length) {
            if (count < 0 || count >= MAX_SHIFTS) {
                return NONE;
            }
            starts[count] = start;
            lengths[count] = length;
            count++;
            return count - 1;
        }

        int startOf(int shift) {
            return shift >= 0 && shift < MAX_SHIFTS ? starts[shift] : 0;
        }

        int lengthOf(int shift) {
            return shift >= 0 && shift < MAX_SHIFTS ? lengths[shift] : 0;
        }

        // A start is at most 1439, so that the end alone decides.
        boolean holdsNight(int shift) {
            return shift >= 0 && shift < MAX_SHIFTS && starts[shift] + lengths[shift] > NIGHT_MINUTE;
        }
    }

    /** The five numbers and the demands. */
    private static final class Rules {
        private final int[] demands = new int[POSTS];
        private int rest = 660;
        private int nights = 3;
        private int run = 6;
        private int span = 7;
        private int limit = 2880;

        int demandAt(int day, int shift) {
            int post = postOf(day, shift);
            return post >= 0 && post < POSTS ? demands[post] : 0;
        }

        void putDemand(int day, int shift, int persons) {
            int post = postOf(day, shift);
            if (post >= 0 && post < POSTS) {
                demands[post] = persons;
            }
        }
    }

    /** Who has what on which day, who is away, who can do what. */
    private static final class Roster {
        private final int[] values = new int[CELLS];
        private final boolean[] aways = new boolean[CELLS];
        private final boolean[] skills = new boolean[MAX_PERSONS * MAX_SHIFTS];
        // How many persons have each shift on each day, counted along with each put().
        private final int[] staff = new int[POSTS];
        private int persons = 0;

        boolean hasPerson(int person) {
            return person >= 0 && person < persons && person < MAX_PERSONS;
        }

        int shiftAt(int person, int day) {
            int cell = cellOf(person, day);
            return cell >= 0 && cell < CELLS ? values[cell] - 1 : NONE;
        }

        int valueAt(int cell) {
            return cell >= 0 && cell < CELLS ? values[cell] : FREE;
        }

        void put(int cell, int value) {
            if (cell < 0 || cell >= CELLS || value < FREE || value > MAX_SHIFTS) {
                return;
            }
            countStaff(cell % DAYS, values[cell] - 1, -1);
            values[cell] = value;
            countStaff(cell % DAYS, value - 1, 1);
        }

        private void countStaff(int day, int shift, int step) {
            int post = postOf(day, shift);
            if (post >= 0 && post < POSTS) {
                staff[post] += step;
            }
        }

        int staffAt(int day, int shift) {
            int post = postOf(day, shift);
            return post >= 0 && post < POSTS ? staff[post] : 0;
        }

        void exchange(int person, int other, int day) {
            int value = shiftAt(person, day) + 1;
            int otherValue = shiftAt(other, day) + 1;
            put(cellOf(person, day), otherValue);
            put(cellOf(other, day), value);
        }

        boolean isAway(int person, int day) {
            int cell = cellOf(person, day);
            return cell >= 0 && cell < CELLS && aways[cell];
        }

        void putAway(int person, int day, boolean isAway) {
            int cell = cellOf(person, day);
            if (cell >= 0 && cell < CELLS) {
                aways[cell] = isAway;
            }
        }

        boolean hasSkill(int person, int shift) {
            int skill = skillOf(person, shift);
            return skill >= 0 && skill < skills.length && skills[skill];
        }

        void putSkill(int person, int shift) {
            int skill = skillOf(person, shift);
            if (skill >= 0 && skill < skills.length) {
                skills[skill] = true;
            }
        }
    }

    /** What is counted and summed over the days of one person. */
    private static final class Measures {
        private final Shifts shifts;
        private final Rules rules;
        private final Roster roster;

        Measures(Shifts shifts, Rules rules, Roster roster) {
            this.shifts = shifts;
            this.rules = rules;
            this.roster = roster;
        }

        int minutesAt(int person, int day) {
            return shifts.lengthOf(roster.shiftAt(person, day));
        }

        private boolean isNightAt(int person, int day) {
            return shifts.holdsNight(roster.shiftAt(person, day));
        }

        /** Returns the latest day before a day for which a person has a shift, or NONE. */
        int dayWorkedBefore(int person, int day) {
            for (int earlier = day - 1; earlier >= 0; earlier--) {
                if (roster.shiftAt(person, earlier) != NONE) {
                    return earlier;
                }
            }
            return NONE;
        }

        int restAt(int person, int day) {
            int shift = roster.shiftAt(person, day);
            int earlier = dayWorkedBefore(person, day);
            if (shift == NONE || earlier == NONE) {
                return NO_REST;
            }
            int earlierShift = roster.shiftAt(person, earlier);
            int end = earlier * DAY_MINUTES + shifts.startOf(earlierShift) + shifts.lengthOf(earlierShift);
            return day * DAY_MINUTES + shifts.startOf(shift) - end;
        }

        int nightsByCounting(int person) {
            int longest = 0;
            int row = 0;
            for (int day = 0; day < DAYS; day++) {
                row = isNightAt(person, day) ? row + 1 : 0;
                longest = Math.max(longest, row);
            }
            return longest;
        }

        int nightsByTryingRows(int person) {
            int longest = 0;
            for (int first = 0; first < DAYS; first++) {
                for (int last = first; last < DAYS; last++) {
                    if (isRowOfNights(person, first, last)) {
                        longest = Math.max(longest, last - first + 1);
                    }
                }
            }
            return longest;
        }

        private boolean isRowOfNights(int person, int first, int last) {
            for (int day = first; day <= last; day++) {
                if (!isNightAt(person, day)) {
                    return false;
                }
            }
            return true;
        }

        int sumByMoving(int person) {
            int most = 0;
            int sum = 0;
            for (int day = 0; day < DAYS; day++) {
                sum += minutesAt(person, day) - minutesAt(person, day - rules.span);
                if (day >= rules.span - 1) {
                    most = Math.max(most, sum);
                }
            }
            return most;
        }

        int sumByAddingAnew(int person) {
            int most = 0;
            for (int first = 0; first + rules.span <= DAYS; first++) {
                int sum = 0;
                for (int day = first; day < first + rules.span; day++) {
                    sum += minutesAt(person, day);
                }
                most = Math.max(most, sum);
            }
            return most;
        }
    }

    /** Finds the breaches of the roster as it stands. */
    private static final class Checker {
        private final Shifts shifts;
        private final Rules rules;
        private final Roster roster;

        Checker(Shifts shifts, Rules rules, Roster roster) {
            this.shifts = shifts;
            this.rules = rules;
            this.roster = roster;
        }

        void look(Findings findings) {
            for (int person = 0; person < MAX_PERSONS; person++) {
                findings.putRow(person, breachesOf(person));
            }
            for (int day = 0; day < DAYS; day++) {
                findings.putShortages(day, shortagesOf(day));
            }
        }

        /** Returns the breaches of a person, a bit each: eight for the days of each kind, the first kind lowest. */
        long breachesOf(int person) {
            long found = 0L;
            int worked = 0;
            int nights = 0;
            int sum = 0;
            // So long ago that the first shift has all the rest that can be asked for.
            int end = -MAX_REST;
            for (int day = 0; day < DAYS; day++) {
                int shift = roster.shiftAt(person, day);
                int first = day - rules.span + 1;
                worked = shift == NONE ? 0 : worked + 1;
                nights = shifts.holdsNight(shift) ? nights + 1 : 0;
                sum += shifts.lengthOf(shift) - shifts.lengthOf(roster.shiftAt(person, first - 1));
                found |= bitIf(nights > rules.nights, NIGHTS, day)
                        | bitIf(worked > rules.run, RUN, day)
                        | bitIf(first >= 0 && sum > rules.limit, HOURS, first);
                if (shift != NONE) {
                    int start = day * DAY_MINUTES + shifts.startOf(shift);
                    found |= bitIf(roster.isAway(person, day), ABSENT, day)
                            | bitIf(!roster.hasSkill(person, shift), UNSKILLED, day)
                            | bitIf(start - end < rules.rest, REST, day);
                    end = start + shifts.lengthOf(shift);
                }
            }
            return found;
        }

        private static long bitIf(boolean isBreach, int kind, int day) {
            return isBreach ? 1L << (kind * DAYS + day) : 0L;
        }

        /** Returns the shifts whose demand for a day is not met, a bit each. */
        int shortagesOf(int day) {
            int found = 0;
            for (int shift = 0; shift < MAX_SHIFTS; shift++) {
                if (roster.staffAt(day, shift) < rules.demandAt(day, shift)) {
                    found |= 1 << shift;
                }
            }
            return found;
        }
    }

    /** The breaches of a roster, as the bits that Checker finds. */
    private static final class Findings {
        private static final int ROW_BITS = (1 << DAYS) - 1;
        private static final int POST_BITS = (1 << MAX_SHIFTS) - 1;

        private final long[] rows = new long[MAX_PERSONS];
        // A bit for each post, in the order of the posts.
        private int shortages = 0;

        void putRow(int person, long bits) {
            if (person >= 0 && person < MAX_PERSONS) {
                rows[person] = bits;
            }
        }

        void putShortages(int day, int bits) {
            shortages = shortages & ~(POST_BITS << postOf(day, 0)) | bits << postOf(day, 0);
        }

        private int daysOf(int kind, int person) {
            return person >= 0 && person < MAX_PERSONS ? (int) (rows[person] >>> kind * DAYS) & ROW_BITS : 0;
        }

        int size() {
            int sum = Integer.bitCount(shortages);
            for (int person = 0; person < MAX_PERSONS; person++) {
                sum += Long.bitCount(rows[person]);
            }
            return sum;
        }

        /** Returns whether there is no breach but those of one person and the demands of one day. */
        boolean isClearBesides(int one, int day) {
            for (int person = 0; person < MAX_PERSONS; person++) {
                if (person != one && rows[person] != 0L) {
                    return false;
                }
            }
            return (shortages & ~(POST_BITS << postOf(day, 0))) == 0;
        }

        boolean isPartOf(Findings others) {
            for (int person = 0; person < MAX_PERSONS; person++) {
                if ((rows[person] & ~others.rows[person]) != 0L) {
                    return false;
                }
            }
            return (shortages & ~others.shortages) == 0;
        }

        /** Returns the breach with a number, as breachOf() packs it, or NONE. */
        int breachAt(int index) {
            if (index < 0) {
                return NONE;
            }
            int left = index;
            for (int kind = 0; kind < DEMAND; kind++) {
                for (int person = 0; person < MAX_PERSONS; person++) {
                    int days = daysOf(kind, person);
                    if (left < Integer.bitCount(days)) {
                        return breachOf(kind, person, placeOfBit(days, left), NONE);
                    }
                    left -= Integer.bitCount(days);
                }
            }
            int post = placeOfBit(shortages, left);
            return post == NONE ? NONE : breachOf(DEMAND, NONE, post / MAX_SHIFTS, post % MAX_SHIFTS);
        }

        /** Returns the place of the bit that has as many bits set below it as asked for, or NONE. */
        private static int placeOfBit(int bits, int below) {
            int left = below;
            for (int place = 0; place < POSTS; place++) {
                if ((bits >>> place & 1) == 1) {
                    if (left == 0) {
                        return place;
                    }
                    left--;
                }
            }
            return NONE;
        }

        // The persons come up in the order of their first breaches, so that an equal number later does not count.
        int mostBurdened() {
            int most = 0;
            int burdened = NONE;
            for (int kind = 0; kind < DEMAND; kind++) {
                for (int person = 0; person < MAX_PERSONS; person++) {
                    if (daysOf(kind, person) != 0 && Long.bitCount(rows[person]) > most) {
                        most = Long.bitCount(rows[person]);
                        burdened = person;
                    }
                }
            }
            return burdened;
        }
    }

    /** A set of changes, in the order of their cells. */
    private static final class Changes {
        private final int[] cells = new int[MAX_CHANGES];
        private final int[] values = new int[MAX_CHANGES];
        private int size = 0;

        void put(int index, int cell, int value) {
            if (index >= 0 && index < MAX_CHANGES) {
                cells[index] = cell;
                values[index] = value;
            }
        }

        int cellAt(int index) {
            return index >= 0 && index < MAX_CHANGES ? cells[index] : NONE;
        }

        int valueAt(int index) {
            return index >= 0 && index < MAX_CHANGES ? values[index] : FREE;
        }
    }

    /** Seeks the sets of changes that mend the roster; a set of cells is an int with a bit for each cell. */
    private static final class Mender {
        private static final int ALL = -1;

        private final Shifts shifts;
        private final Rules rules;
        private final Roster roster;
        private final Measures measures;
        private final Checker checker;
        private final Findings left = new Findings();
        private final Changes found = new Changes();

        Mender(Shifts shifts, Rules rules, Roster roster, Measures measures, Checker checker) {
            this.shifts = shifts;
            this.rules = rules;
            this.roster = roster;
            this.measures = measures;
            this.checker = checker;
        }

        /**
         * Returns the number of changes of the least set, or NONE, and leaves the roster as it is. Guided, it tries
         * only cells that touch the first breach that is left; else it tries all sets in their order, so that the
         * least set is the one found.
         */
        int seek(boolean isGuided) {
            checker.look(left);
            if (left.size() == 0) {
                return 0;
            }
            int cells = isGuided ? touching(left.breachAt(0)) : ALL;
            if (findLast(cells, 0)) {
                return 1;
            }
            return findTwo(cells, isGuided) ? 2 : NONE;
        }

        /** Returns whether two changes, the first one in the cells, mend what is left, and puts them in found. */
        private boolean findTwo(int cells, boolean isGuided) {
            for (int cell = 0; cell < roster.persons * DAYS; cell++) {
                int before = roster.valueAt(cell);
                int values = has(cells, cell) ? shifts.count : NONE;
                for (int value = FREE; value <= values; value++) {
                    if (value == before) {
                        continue;
                    }
                    change(cell, value);
                    int others = isGuided ? touching(left.breachAt(0)) & ~(1 << cell) : cellsAfter(cell);
                    boolean isMended = findLast(others, 1);
                    change(cell, before);
                    if (isMended) {
                        found.put(0, cell, value);
                        return true;
                    }
                }
            }
            return false;
        }

        private void change(int cell, int value) {
            roster.put(cell, value);
            left.putRow(cell / DAYS, checker.breachesOf(cell / DAYS));
            left.putShortages(cell % DAYS, checker.shortagesOf(cell % DAYS));
        }

        /** Returns whether one change in the cells mends what is left, and puts it at its place in found. */
        private boolean findLast(int cells, int place) {
            for (int cell = 0; cell < roster.persons * DAYS; cell++) {
                // No change takes away a breach of another person or a shortage of another day.
                boolean canMend = has(cells, cell) && left.isClearBesides(cell / DAYS, cell % DAYS);
                int before = roster.valueAt(cell);
                int values = canMend ? shifts.count : NONE;
                for (int value = FREE; value <= values; value++) {
                    if (value == before) {
                        continue;
                    }
                    roster.put(cell, value);
                    boolean isMended = checker.shortagesOf(cell % DAYS) == 0 && checker.breachesOf(cell / DAYS) == 0L;
                    roster.put(cell, before);
                    if (isMended) {
                        found.put(place, cell, value);
                        return true;
                    }
                }
            }
            return false;
        }

        private static boolean has(int cells, int cell) {
            return (cells >>> cell & 1) == 1;
        }

        // In two steps, for Java takes a shift by 32 as one by 0.
        private static int cellsAfter(int cell) {
            return ALL << cell << 1;
        }

        /** Returns the cells that a breach hangs on: while none of them changes, it stays. */
        private int touching(int breach) {
            int day = dayOf(breach);
            int person = personOf(breach);
            switch (kindOf(breach)) {
                case REST:
                    return cellsOf(person, measures.dayWorkedBefore(person, day), day);
                case NIGHTS:
                    return cellsOf(person, day - rules.nights, day);
                case RUN:
                    return cellsOf(person, day - rules.run, day);
                case HOURS:
                    return cellsOf(person, day, day + rules.span - 1);
                case DEMAND:
                    return cellsOfDay(day);
                default:
                    return cellsOf(person, day, day);
            }
        }

        private static int cellsOf(int person, int first, int last) {
            int cells = 0;
            for (int day = Math.max(first, 0); day <= last && day < DAYS; day++) {
                cells |= 1 << cellOf(person, day);
            }
            return cells;
        }

        private static int cellsOfDay(int day) {
            int cells = 0;
            for (int person = 0; person < MAX_PERSONS; person++) {
                cells |= 1 << cellOf(person, day);
            }
            return cells;
        }
    }
}
