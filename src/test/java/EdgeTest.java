import java.lang.reflect.Method;
import java.util.Set;
import java.util.TreeSet;
import java.util.function.Consumer;
import java.util.function.IntFunction;
import java.util.function.Supplier;

/** The sentences of the promises that name a boundary, a test each: its name begins with the promise's number. */
public final class EdgeTest extends TestBase {
    private static final int[] NO_BREACH_OF_3 = {-1, 3, 4, MIN, MAX};
    private static final int[] NO_BREACH_OF_196 = {-1, 196, 197, MIN, MAX};
    private static final int[] NO_CHANGE_OF_2 = {-1, 2, 3, MIN, MAX};

    // Promise 1: "Creates a roster without persons and shifts."

    private static void promise01_noPersonIsThere() {
        refuses(Rosterproof::new, BOUNDS, x -> x.shiftOf(0, 0));
        refuses(Rosterproof::new, BOUNDS, x -> x.workShare(0));
        due(new Rosterproof().addPerson(), 0);
    }

    private static void promise01_noShiftIsThere() {
        refuses(Rosterproof::new, NO_SUCH, x -> x.isNight(0));
        refuses(Rosterproof::new, NO_SUCH, x -> x.setDemand(0, 0, 0));
        due(new Rosterproof().addShift(0, 1), 0);
    }

    private static void promise01_nothingIsToTell() {
        Rosterproof x = new Rosterproof();
        due(x.breaches(), 0);
        due(x.minutes(), 0L);
        due(changes(x), "");
        due(x.isSound(), true);
    }

    private static void promise01_oneObjectTellsNothingOfAnother() {
        Rosterproof first = new Rosterproof();
        full().mostBreaches();
        due(everything(first), everything(new Rosterproof()));
    }

    // Promise 2: "Adds a person .." "Returns the number of the person." "Throws .. if there are 4 persons"

    private static void promise02_numbersFrom0To3() {
        Rosterproof x = new Rosterproof();
        for (int person = 0; person < 4; person++) {
            due(x.addPerson(), person);
        }
    }

    private static void promise02_theFifthIsRefused() {
        refuses(() -> skilled(4), STATE, Rosterproof::addPerson);
        refuses(TestBase::full, STATE, Rosterproof::addPerson);
    }

    private static void promise02_theNewOneIsFreeOnAllDays() {
        Rosterproof x = fill(fill(pair(), 0, "00000000"), 1, "11111111");
        due(x.addPerson(), 2);
        due(row(x, 2), "........ ");
        due(x.workShare(2), 0.0f);
        due(row(x, 1), "11111111 ");
    }

    private static void promise02_theNewOneIsNeverAbsentAndWithoutSkills() {
        Rosterproof x = easy(3, 0, 1, 5, 1, 10, 1);
        for (int cell = 0; cell < 24; cell++) {
            x.setAbsent(cell / 8, cell % 8, true);
        }
        due(x.addPerson(), 3);
        fill(x, 3, "00000000");
        due(list(x), "k 3 0 -1, k 3 1 -1, k 3 2 -1, k 3 3 -1, k 3 4 -1, k 3 5 -1, k 3 6 -1, k 3 7 -1");
        for (int shift = 0; shift < 3; shift++) {
            due(x.teach(3, shift), true);
        }
    }

    // Promise 3: "the start, 0 to 1439", "the length, 1 to 720", "IllegalArgumentException if one of them is out of
    // range", "IllegalStateException if there are 3 shifts"

    private static void promise03_firstAndLastStart() {
        due(new Rosterproof().addShift(0, 1), 0);
        due(new Rosterproof().addShift(1439, 1), 0);
        due(fill(skilled(1, 1439, 1, 0, 1), 0, "0.1").restBefore(0, 2), 1440);
    }

    private static void promise03_startOutOfRange() {
        for (int start : new int[] {-1, 1440, -1440, MIN, MAX}) {
            refuses(ARGUMENT, x -> x.addShift(start, 1));
            refuses(Rosterproof::new, ARGUMENT, x -> x.addShift(start, 720));
        }
    }

    private static void promise03_firstAndLastLength() {
        due(new Rosterproof().addShift(0, 1), 0);
        due(new Rosterproof().addShift(0, 720), 0);
        due(fill(skilled(1, 0, 1, 0, 720), 0, "01").minutes(), 721L);
    }

    private static void promise03_lengthOutOfRange() {
        for (int length : new int[] {0, 721, -1, MIN, MAX}) {
            refuses(ARGUMENT, x -> x.addShift(0, length));
            refuses(Rosterproof::new, ARGUMENT, x -> x.addShift(1439, length));
        }
    }

    private static void promise03_bothOutOfRange() {
        refuses(ARGUMENT, x -> x.addShift(-1, 0));
        refuses(ARGUMENT, x -> x.addShift(1440, 721));
        refuses(ARGUMENT, x -> x.addShift(MIN, MAX));
    }

    private static void promise03_numbersFrom0To2() {
        Rosterproof x = new Rosterproof();
        due(x.addShift(1439, 720), 0);
        due(x.addShift(0, 720), 1);
        due(x.addShift(0, 1), 2);
    }

    private static void promise03_theFourthIsRefused() {
        refuses(TestBase::full, STATE, x -> x.addShift(0, 1));
        refuses(() -> skilled(0, 0, 1, 0, 1, 0, 1), STATE, x -> x.addShift(1439, 720));
    }

    private static void promise03_theRangeGoesBeforeTheNumber() {
        refuses(TestBase::full, ARGUMENT, x -> x.addShift(1440, 1));
        refuses(TestBase::full, ARGUMENT, x -> x.addShift(-1, 1));
        refuses(TestBase::full, ARGUMENT, x -> x.addShift(0, 0));
        refuses(TestBase::full, ARGUMENT, x -> x.addShift(0, 721));
    }

    private static void promise03_aRefusedShiftTakesNoNumber() {
        Rosterproof x = new Rosterproof();
        thrown(() -> x.addShift(1440, 1));
        thrown(() -> x.addShift(0, 0));
        due(x.addShift(0, 1), 0);
        thrown(() -> x.addShift(-1, 1));
        due(x.addShift(0, 1), 1);
    }

    // Promise 4: "Returns whether a shift is a night shift." "NoSuchElementException if there is no such shift"

    private static void promise04_endsAt1620And1621() {
        Rosterproof x = skilled(0, 900, 720, 901, 720, 1439, 181);
        due(x.isNight(0), false);
        due(x.isNight(1), true);
        due(x.isNight(2), false);
        due(skilled(0, 1439, 182).isNight(0), true);
        due(skilled(0, 901, 719).isNight(0), false);
    }

    private static void promise04_theLongestAndTheLatest() {
        due(skilled(0, 0, 720).isNight(0), false);
        due(skilled(0, 1439, 1).isNight(0), false);
        due(skilled(0, 1439, 720).isNight(0), true);
        due(skilled(0, 0, 1).isNight(0), false);
    }

    private static void promise04_noSuchShift() {
        for (int shift : NO_SHIFT_OF_2) {
            refuses(NO_SUCH, x -> x.isNight(shift));
        }
        for (int shift : NO_SHIFT_OF_3) {
            refuses(TestBase::full, NO_SUCH, x -> x.isNight(shift));
        }
        refuses(Rosterproof::new, NO_SUCH, x -> x.isNight(0));
    }

    // Promise 5: "Returns whether the person did not have it before the call."

    private static void promise05_newAndKnown() {
        Rosterproof x = full();
        for (int skill = 0; skill < 12; skill++) {
            due(x.teach(skill / 3, skill % 3), true);
            due(x.teach(skill / 3, skill % 3), false);
        }
        due(x.teach(0, 0), false);
    }

    private static void promise05_takesAwayTheBreaches() {
        Rosterproof x = unskilled("0......0");
        due(list(x), "k 3 0 -1, k 3 7 -1");
        x.teach(3, 0);
        due(list(x), "");
    }

    private static void promise05_noSuchPerson() {
        for (int person : NO_PERSON_OF_2) {
            refuses(BOUNDS, x -> x.teach(person, 0));
        }
        for (int person : NO_PERSON_OF_4) {
            refuses(TestBase::full, BOUNDS, x -> x.teach(person, 2));
        }
    }

    private static void promise05_noSuchShift() {
        for (int shift : NO_SHIFT_OF_2) {
            refuses(NO_SUCH, x -> x.teach(0, shift));
        }
        for (int shift : NO_SHIFT_OF_3) {
            refuses(TestBase::full, NO_SUCH, x -> x.teach(0, shift));
        }
    }

    private static void promise05_thePersonGoesBeforeTheShift() {
        refuses(BOUNDS, x -> x.teach(2, 2));
        refuses(BOUNDS, x -> x.teach(-1, -1));
        refuses(Rosterproof::new, BOUNDS, x -> x.teach(0, 0));
    }

    // Promises 6 to 9: "Returns the .. before the call." "IllegalArgumentException if .. out of range"

    private static void promise06_firstAndLastInRange() {
        Rosterproof x = new Rosterproof();
        due(x.setRest(0), 660);
        due(x.setRest(2000), 0);
        due(x.setRest(2000), 2000);
        due(x.setRest(0), 2000);
    }

    private static void promise06_outOfRange() {
        for (int rest : new int[] {-1, 2001, MIN, MAX}) {
            refuses(ARGUMENT, x -> x.setRest(rest));
            refuses(TestBase::full, ARGUMENT, x -> x.setRest(rest));
        }
    }

    private static void promise06_theRestThatIsHadIsEnough() {
        Rosterproof x = fill(pair(), 0, "10");
        x.setRest(60);
        due(list(x), "");
        x.setRest(61);
        due(list(x), "r 0 1 -1");
        x.setRest(59);
        due(list(x), "");
    }

    private static void promise07_firstAndLastInRange() {
        Rosterproof x = new Rosterproof();
        due(x.setNights(1), 3);
        due(x.setNights(8), 1);
        due(x.setNights(8), 8);
    }

    private static void promise07_outOfRange() {
        for (int nights : new int[] {0, 9, -1, MIN, MAX}) {
            refuses(ARGUMENT, x -> x.setNights(nights));
            refuses(TestBase::full, ARGUMENT, x -> x.setNights(nights));
        }
    }

    private static void promise07_asManyNightsAreAllowed() {
        Rosterproof x = fill(pair(), 0, "11111...");
        x.setNights(5);
        due(list(x), "");
        x.setNights(4);
        due(list(x), "n 0 4 -1");
        x.setNights(6);
        due(list(x), "");
    }

    private static void promise08_firstAndLastInRange() {
        Rosterproof x = new Rosterproof();
        due(x.setRun(1), 6);
        due(x.setRun(8), 1);
        due(x.setRun(8), 8);
    }

    private static void promise08_outOfRange() {
        for (int run : new int[] {0, 9, -1, MIN, MAX}) {
            refuses(ARGUMENT, x -> x.setRun(run));
            refuses(TestBase::full, ARGUMENT, x -> x.setRun(run));
        }
    }

    private static void promise08_asManyDaysAreAllowed() {
        Rosterproof x = fill(pair(), 0, "00000...");
        x.setRun(5);
        due(list(x), "");
        x.setRun(4);
        due(list(x), "w 0 4 -1");
        x.setRun(6);
        due(list(x), "");
    }

    private static void promise09_firstAndLastInRange() {
        Rosterproof x = fill(skilled(1, 0, 1), 0, "00000000");
        due(x.setHours(1, 0), 2880);
        due(x.peak(0), 1);
        due(x.setHours(8, 6000), 0);
        due(x.peak(0), 8);
        due(x.setHours(1, 6000), 6000);
        due(x.setHours(8, 0), 6000);
        due(x.setHours(8, 0), 0);
    }

    private static void promise09_spanOutOfRange() {
        for (int span : new int[] {0, 9, -1, MIN, MAX}) {
            refuses(ARGUMENT, x -> x.setHours(span, 0));
            refuses(TestBase::full, ARGUMENT, x -> x.setHours(span, 6000));
        }
    }

    private static void promise09_limitOutOfRange() {
        for (int limit : new int[] {-1, 6001, MIN, MAX}) {
            refuses(ARGUMENT, x -> x.setHours(1, limit));
            refuses(TestBase::full, ARGUMENT, x -> x.setHours(8, limit));
        }
    }

    private static void promise09_bothOutOfRange() {
        refuses(ARGUMENT, x -> x.setHours(0, -1));
        refuses(ARGUMENT, x -> x.setHours(9, 6001));
        refuses(ARGUMENT, x -> x.setHours(MAX, MIN));
    }

    private static void promise09_theLimitItselfIsAllowed() {
        Rosterproof x = fill(pair(), 0, "..00....");
        x.setHours(2, 960);
        due(list(x), "");
        x.setHours(2, 959);
        due(list(x), "h 0 2 -1");
        x.setHours(2, 961);
        due(list(x), "");
    }

    // Promise 10: "Returns the demand before the call."

    private static void promise10_firstAndLastInRange() {
        Rosterproof x = skilled(0, 0, 1, 0, 1, 0, 1);
        for (int day : new int[] {0, 7}) {
            for (int shift : new int[] {0, 2}) {
                due(x.setDemand(day, shift, 4), 0);
                due(x.setDemand(day, shift, 4), 4);
                due(x.setDemand(day, shift, 0), 4);
                due(x.setDemand(day, shift, 1), 0);
            }
        }
        due(list(x), "d -1 0 0, d -1 0 2, d -1 7 0, d -1 7 2");
    }

    private static void promise10_noSuchDay() {
        for (int day : NO_DAY) {
            refuses(BOUNDS, x -> x.setDemand(day, 0, 1));
            refuses(TestBase::full, BOUNDS, x -> x.setDemand(day, 2, 1));
        }
    }

    private static void promise10_noSuchShift() {
        for (int shift : NO_SHIFT_OF_2) {
            refuses(NO_SUCH, x -> x.setDemand(0, shift, 1));
        }
        for (int shift : NO_SHIFT_OF_3) {
            refuses(TestBase::full, NO_SUCH, x -> x.setDemand(6, shift, 1));
        }
    }

    private static void promise10_demandOutOfRange() {
        for (int demand : new int[] {-1, 5, MIN, MAX}) {
            refuses(ARGUMENT, x -> x.setDemand(3, 1, demand));
            refuses(TestBase::full, ARGUMENT, x -> x.setDemand(7, 2, demand));
        }
    }

    private static void promise10_theDayGoesBeforeTheShift() {
        refuses(BOUNDS, x -> x.setDemand(8, 2, 0));
        refuses(BOUNDS, x -> x.setDemand(-1, -1, 0));
    }

    private static void promise10_theDayGoesBeforeTheDemand() {
        refuses(BOUNDS, x -> x.setDemand(8, 0, 5));
        refuses(BOUNDS, x -> x.setDemand(-1, 0, -1));
        refuses(BOUNDS, x -> x.setDemand(-1, 2, -1));
    }

    private static void promise10_theShiftGoesBeforeTheDemand() {
        refuses(NO_SUCH, x -> x.setDemand(0, 2, 5));
        refuses(NO_SUCH, x -> x.setDemand(7, -1, -1));
    }

    private static void promise10_asManyPersonsAreEnough() {
        Rosterproof x = fill(fill(easy(3, 0, 1), 0, ".......0"), 2, ".......0");
        x.setDemand(7, 0, 2);
        due(list(x), "");
        x.setDemand(7, 0, 3);
        due(list(x), "d -1 7 0");
        x.setDemand(7, 0, 1);
        due(list(x), "");
    }

    // Promise 11: "Gives a person a shift for a day, whatever breaches come of it."

    private static void promise11_firstAndLastOfAll() {
        Rosterproof x = easy(4, 0, 1, 5, 1, 10, 1);
        for (int person : new int[] {0, 3}) {
            for (int day : new int[] {0, 7}) {
                due(x.assign(person, day, 2), -1);
                due(x.assign(person, day, 0), 2);
                due(x.assign(person, day, 0), 0);
                due(x.shiftOf(person, day), 0);
            }
        }
        due(x.minutes(), 4L);
    }

    private static void promise11_withEveryBreachThatThereIs() {
        Rosterproof x = full();
        for (int cell = 0; cell < 32; cell++) {
            due(x.assign(cell / 8, cell % 8, 0), 0);
        }
        due(x.breaches(), 196);
    }

    private static void promise11_noSuchPerson() {
        for (int person : NO_PERSON_OF_2) {
            refuses(BOUNDS, x -> x.assign(person, 0, 0));
        }
        for (int person : NO_PERSON_OF_4) {
            refuses(TestBase::full, BOUNDS, x -> x.assign(person, 7, 2));
        }
    }

    private static void promise11_noSuchDay() {
        for (int day : NO_DAY) {
            refuses(BOUNDS, x -> x.assign(0, day, 0));
            refuses(TestBase::full, BOUNDS, x -> x.assign(0, day, 2));
            refuses(TestBase::full, BOUNDS, x -> x.assign(3, day, 2));
        }
    }

    private static void promise11_noSuchShift() {
        for (int shift : NO_SHIFT_OF_2) {
            refuses(NO_SUCH, x -> x.assign(0, 0, shift));
        }
        for (int shift : NO_SHIFT_OF_3) {
            refuses(TestBase::full, NO_SUCH, x -> x.assign(3, 7, shift));
        }
    }

    private static void promise11_thePersonAndTheDayGoBeforeTheShift() {
        refuses(BOUNDS, x -> x.assign(2, 0, 2));
        refuses(BOUNDS, x -> x.assign(0, 8, 2));
        refuses(BOUNDS, x -> x.assign(-1, -1, -1));
        refuses(Rosterproof::new, BOUNDS, x -> x.assign(0, 0, 0));
    }

    // Promise 12: "Makes a person free on a day." "IllegalStateException if the person is free on the day"

    private static void promise12_firstAndLastOfAll() {
        Rosterproof x = full();
        due(x.free(0, 0), 0);
        due(x.free(0, 7), 0);
        due(x.free(3, 0), 0);
        x.assign(3, 7, 2);
        due(x.free(3, 7), 2);
        due(row(x, 0), ".000000. ");
        due(row(x, 1), "00000000 ");
        due(row(x, 3), ".000000. ");
    }

    private static void promise12_freeAlready() {
        refuses(STATE, x -> x.free(0, 0));
        refuses(STATE, x -> x.free(1, 0));
        refuses(() -> skilled(4, 0, 1), STATE, x -> x.free(3, 7));
        refuses(() -> {
            Rosterproof x = full();
            x.free(3, 7);
            return x;
        }, STATE, x -> x.free(3, 7));
    }

    private static void promise12_noSuchPerson() {
        for (int person : NO_PERSON_OF_2) {
            refuses(BOUNDS, x -> x.free(person, 1));
        }
        for (int person : NO_PERSON_OF_4) {
            refuses(TestBase::full, BOUNDS, x -> x.free(person, 7));
        }
    }

    private static void promise12_noSuchDay() {
        for (int day : NO_DAY) {
            refuses(BOUNDS, x -> x.free(1, day));
            refuses(TestBase::full, BOUNDS, x -> x.free(0, day));
            refuses(TestBase::full, BOUNDS, x -> x.free(3, day));
        }
    }

    // Promise 13: "Returns whether the person was absent on the day before the call."

    private static void promise13_firstAndLastOfAll() {
        Rosterproof x = skilled(4);
        for (int cell : new int[] {0, 7, 24, 31}) {
            due(x.setAbsent(cell / 8, cell % 8, true), false);
            due(x.setAbsent(cell / 8, cell % 8, true), true);
            due(x.setAbsent(cell / 8, cell % 8, false), true);
            due(x.setAbsent(cell / 8, cell % 8, false), false);
        }
    }

    private static void promise13_noSuchPerson() {
        for (int person : NO_PERSON_OF_2) {
            refuses(BOUNDS, x -> x.setAbsent(person, 0, true));
        }
        for (int person : NO_PERSON_OF_4) {
            refuses(TestBase::full, BOUNDS, x -> x.setAbsent(person, 7, false));
        }
    }

    private static void promise13_noSuchDay() {
        for (int day : NO_DAY) {
            refuses(BOUNDS, x -> x.setAbsent(0, day, true));
            refuses(TestBase::full, BOUNDS, x -> x.setAbsent(0, day, false));
            refuses(TestBase::full, BOUNDS, x -> x.setAbsent(3, day, false));
        }
    }

    // Promise 14: "Returns the number of the shift, or -1 if the person is free."

    private static void promise14_firstAndLastOfAll() {
        Rosterproof x = easy(4, 0, 1, 5, 1, 10, 1);
        x.assign(0, 0, 2);
        x.assign(3, 7, 0);
        due(x.shiftOf(0, 0), 2);
        due(x.shiftOf(3, 7), 0);
        due(x.shiftOf(0, 7), -1);
        due(x.shiftOf(3, 0), -1);
    }

    private static void promise14_noSuchPerson() {
        for (int person : NO_PERSON_OF_2) {
            refuses(BOUNDS, x -> x.shiftOf(person, 1));
        }
        for (int person : NO_PERSON_OF_4) {
            refuses(TestBase::full, BOUNDS, x -> x.shiftOf(person, 0));
        }
    }

    private static void promise14_noSuchDay() {
        for (int day : NO_DAY) {
            refuses(BOUNDS, x -> x.shiftOf(1, day));
            refuses(TestBase::full, BOUNDS, x -> x.shiftOf(0, day));
            refuses(TestBase::full, BOUNDS, x -> x.shiftOf(3, day));
        }
    }

    // Promise 15: "Returns the number of minutes, which can be less than 0."

    private static void promise15_around0Minutes() {
        int[] starts = {719, 720, 721, 1439};
        int[] rests = {1, 0, -1, -719};
        for (int i = 0; i < rests.length; i++) {
            Rosterproof x = fill(skilled(1, starts[i], 720, 0, 1), 0, ".01.....");
            due(x.restBefore(0, 2), rests[i]);
        }
    }

    private static void promise15_theLongestRest() {
        Rosterproof x = fill(skilled(1, 0, 1, 1439, 1), 0, "0......1");
        due(x.restBefore(0, 7), 7 * 1440 + 1438);
    }

    private static void promise15_fromTheLatestEarlierDay() {
        Rosterproof x = fill(skilled(1, 1439, 720, 0, 1), 0, "01.1...0");
        due(x.restBefore(0, 1), -719);
        due(x.restBefore(0, 3), 2 * 1440 - 1);
        due(x.restBefore(0, 7), 4 * 1440 + 1438);
        x.free(0, 1);
        due(x.restBefore(0, 3), 1440 + 721);
    }

    private static void promise15_noShiftForTheDay() {
        Supplier<Rosterproof> maker = () -> fill(pair(), 0, "0.....1.");
        refuses(maker, NO_SUCH, x -> x.restBefore(0, 1));
        refuses(maker, NO_SUCH, x -> x.restBefore(0, 7));
        refuses(maker, NO_SUCH, x -> x.restBefore(1, 3));
        changesNothing(maker, x -> due(x.restBefore(0, 6), 6 * 1440 + 1320 - 960));
    }

    private static void promise15_noShiftForAnEarlierDay() {
        Supplier<Rosterproof> maker = () -> fill(fill(pair(), 0, "0......."), 1, ".......1");
        refuses(maker, NO_SUCH, x -> x.restBefore(0, 0));
        refuses(maker, NO_SUCH, x -> x.restBefore(1, 7));
        refuses(() -> fill(fill(pair(), 0, ".......0"), 1, "1......."), NO_SUCH, x -> x.restBefore(1, 0));
    }

    private static void promise15_noSuchPerson() {
        for (int person : NO_PERSON_OF_2) {
            refuses(BOUNDS, x -> x.restBefore(person, 7));
        }
        for (int person : NO_PERSON_OF_4) {
            refuses(TestBase::full, BOUNDS, x -> x.restBefore(person, 7));
        }
    }

    private static void promise15_noSuchDay() {
        for (int day : NO_DAY) {
            refuses(BOUNDS, x -> x.restBefore(1, day));
            refuses(TestBase::full, BOUNDS, x -> x.restBefore(0, day));
            refuses(TestBase::full, BOUNDS, x -> x.restBefore(3, day));
        }
    }

    // Promises 16 and 17: "the greatest number of days that follow one another for each of which a person has a night
    // shift", "the same number, found by trying all rows of days"

    /** Person 2 of 3 has these shifts: 0 is by day, 1 and 2 are by night. */
    private static Rosterproof nightly(String shifts) {
        return fill(skilled(3, 480, 480, 1320, 540, 901, 720), 2, shifts);
    }

    private static final String[] NIGHTLY = {"........", "00000000", "1.......", ".......1", "11......", "......11",
        "11111111", "12121212", "1......1", "11....11", "111..111", "1101111.", "1.11.111", "11101112", "0111111.",
        ".1111111", "1111111.", "1.1.1.1.", "01200210"};
    private static final int[] LONGEST = {0, 0, 1, 1, 2, 2, 8, 8, 1, 2, 3, 4, 3, 4, 6, 7, 7, 1, 2};

    private static void promise16_rowsOfEachLengthAndAtBothEnds() {
        for (int i = 0; i < LONGEST.length; i++) {
            due(nightly(NIGHTLY[i]).longestNights(2), LONGEST[i]);
        }
    }

    private static void promise16_rowsOfTwoPersonsAreTwo() {
        Rosterproof x = fill(fill(pair(), 0, "1.....11"), 1, "111....1");
        due(x.longestNights(0), 2);
        due(x.longestNights(1), 3);
    }

    private static void promise16_noSuchPerson() {
        for (int person : NO_PERSON_OF_2) {
            refuses(BOUNDS, x -> x.longestNights(person));
        }
        for (int person : NO_PERSON_OF_4) {
            refuses(TestBase::full, BOUNDS, x -> x.longestNights(person));
        }
    }

    private static void promise17_rowsOfEachLengthAndAtBothEnds() {
        for (int i = 0; i < LONGEST.length; i++) {
            due(nightly(NIGHTLY[i]).longestByRows(2), LONGEST[i]);
        }
    }

    private static void promise17_rowsOfTwoPersonsAreTwo() {
        Rosterproof x = fill(fill(pair(), 0, "1.....11"), 1, "111....1");
        due(x.longestByRows(0), 2);
        due(x.longestByRows(1), 3);
    }

    private static void promise17_noSuchPerson() {
        for (int person : NO_PERSON_OF_2) {
            refuses(BOUNDS, x -> x.longestByRows(person));
        }
        for (int person : NO_PERSON_OF_4) {
            refuses(TestBase::full, BOUNDS, x -> x.longestByRows(person));
        }
    }

    // Promises 18 and 19: "the greatest sum of the lengths of the shifts of a person for the days of a span that lies
    // in days 0 to 7", "the same sum, found by adding anew for each span"

    /** Person 2 of 3 has these shifts, of 1, 100 and 720 minutes. */
    private static Rosterproof working(String shifts, int span) {
        Rosterproof x = fill(skilled(3, 0, 1, 0, 100, 0, 720), 2, shifts);
        x.setHours(span, 0);
        return x;
    }

    private static final String[] WORKING = {"........", "........", "22222222", "22222222", "22222222", "2......2",
        "2......2", "2.......", ".......2", ".......2", "2.......", "010.1012", "2101....", "1.1.1.1.", "1.1.1.1.",
        "21111111", "11111112", "01111110"};
    private static final int[] SPANS = {1, 8, 1, 7, 8, 7, 8, 1, 1, 8, 8, 3, 2, 4, 5, 7, 7, 6};
    private static final int[] PEAKS = {0, 0, 720, 5040, 5760, 720, 1440, 720, 720, 720, 720, 821, 820, 200, 300,
        1320, 1320, 600};

    private static void promise18_spansOfEachLengthAndAtBothEnds() {
        for (int i = 0; i < PEAKS.length; i++) {
            due(working(WORKING[i], SPANS[i]).peak(2), PEAKS[i]);
        }
    }

    private static void promise18_sumsOfTwoPersonsAreTwo() {
        Rosterproof x = fill(fill(pair(), 0, "......01"), 1, "110.....");
        x.setHours(3, 0);
        due(x.peak(0), 1020);
        due(x.peak(1), 1560);
    }

    private static void promise18_noSuchPerson() {
        for (int person : NO_PERSON_OF_2) {
            refuses(BOUNDS, x -> x.peak(person));
        }
        for (int person : NO_PERSON_OF_4) {
            refuses(TestBase::full, BOUNDS, x -> x.peak(person));
        }
    }

    private static void promise19_spansOfEachLengthAndAtBothEnds() {
        for (int i = 0; i < PEAKS.length; i++) {
            due(working(WORKING[i], SPANS[i]).peakByAdding(2), PEAKS[i]);
        }
    }

    private static void promise19_sumsOfTwoPersonsAreTwo() {
        Rosterproof x = fill(fill(pair(), 0, "......01"), 1, "110.....");
        x.setHours(3, 0);
        due(x.peakByAdding(0), 1020);
        due(x.peakByAdding(1), 1560);
    }

    private static void promise19_noSuchPerson() {
        for (int person : NO_PERSON_OF_2) {
            refuses(BOUNDS, x -> x.peakByAdding(person));
        }
        for (int person : NO_PERSON_OF_4) {
            refuses(TestBase::full, BOUNDS, x -> x.peakByAdding(person));
        }
    }

    // Promise 20: "Returns the number of breaches."

    private static void promise20_none() {
        due(new Rosterproof().breaches(), 0);
        due(pair().breaches(), 0);
        due(fill(pair(), 1, "0..1...0").breaches(), 0);
    }

    private static void promise20_one() {
        due(unskilled("0.......").breaches(), 1);
        due(unskilled(".......0").breaches(), 1);
        due(demanding(4).breaches(), 1);
    }

    private static void promise20_all() {
        due(full().breaches(), 32 + 32 + 28 + 28 + 28 + 32 + 16);
    }

    private static void promise20_changesNothing() {
        changesNothing(TestBase::busy, x -> due(x.breaches(), 3));
        changesNothing(TestBase::full, x -> due(x.breaches(), 196));
    }

    // Promises 21 to 24: "NoSuchElementException if there is no such breach"

    private static void noBreach(IntFunction<Consumer<Rosterproof>> calls) {
        for (int index : NO_BREACH_OF_3) {
            refuses(NO_SUCH, calls.apply(index));
        }
        for (int index : NO_BREACH_OF_196) {
            refuses(TestBase::full, NO_SUCH, calls.apply(index));
        }
        for (int index : new int[] {-1, 0, 1, MIN, MAX}) {
            refuses(Rosterproof::new, NO_SUCH, calls.apply(index));
            refuses(TestBase::pair, NO_SUCH, calls.apply(index));
        }
    }

    private static void promise21_firstAndLast() {
        due(full().breachKind(0), 'a');
        due(full().breachKind(195), 'd');
        due(busy().breachKind(0), 'a');
        due(busy().breachKind(2), 'd');
    }

    private static void promise21_whereTheKindsMeet() {
        Rosterproof x = full();
        int[] first = {0, 32, 64, 92, 120, 148, 180, 196};
        for (int kind = 0; kind < 7; kind++) {
            due(x.breachKind(first[kind]), "akrnwhd".charAt(kind));
            due(x.breachKind(first[kind + 1] - 1), "akrnwhd".charAt(kind));
        }
    }

    private static void promise21_noSuchBreach() {
        noBreach(index -> x -> x.breachKind(index));
    }

    private static void promise22_firstAndLast() {
        due(full().breachPerson(0), 0);
        due(full().breachPerson(179), 3);
        due(full().breachPerson(180), -1);
        due(full().breachPerson(195), -1);
        due(busy().breachPerson(0), 1);
        due(busy().breachPerson(2), -1);
    }

    private static void promise22_noSuchBreach() {
        noBreach(index -> x -> x.breachPerson(index));
    }

    private static void promise23_firstAndLast() {
        due(full().breachDay(0), 0);
        due(full().breachDay(7), 7);
        due(full().breachDay(8), 0);
        due(full().breachDay(64), 1);
        due(full().breachDay(179), 7);
        due(full().breachDay(180), 0);
        due(full().breachDay(195), 7);
    }

    private static void promise23_noSuchBreach() {
        noBreach(index -> x -> x.breachDay(index));
    }

    private static void promise24_firstAndLast() {
        due(full().breachShift(0), -1);
        due(full().breachShift(179), -1);
        due(full().breachShift(180), 1);
        due(full().breachShift(195), 2);
        due(busy().breachShift(1), -1);
        due(busy().breachShift(2), 1);
        due(demanding(1).breachShift(0), 0);
    }

    private static void promise24_noSuchBreach() {
        noBreach(index -> x -> x.breachShift(index));
    }

    // Promise 25: "the person with the most breaches; those of kind 'd' are no person's. Of several, it is the one
    // whose first breach has the lowest number."

    /** Four persons with a shift for each of these days, without the skill for it. */
    private static Rosterproof breaching(String first, String second, String third, String fourth) {
        Rosterproof x = skilled(4);
        x.addShift(0, 60);
        return fill(fill(fill(fill(x, 0, first), 1, second), 2, third), 3, fourth);
    }

    private static void promise25_oneMoreThanTheOthers() {
        due(breaching("0", "0", ".0", "00").mostBreaches(), 3);
        due(breaching("0", "00", ".0", "0").mostBreaches(), 1);
        due(breaching("000", "00", ".0", "0").mostBreaches(), 0);
        due(breaching("", "", ".......0", "").mostBreaches(), 2);
    }

    private static void promise25_asManyAsTheOthers() {
        due(breaching("0", "0", "0", "0").mostBreaches(), 0);
        due(breaching("0", "0.0", "00", "0").mostBreaches(), 1);
        due(breaching("", "", ".......0", "0").mostBreaches(), 2);
        due(breaching("0", "00", "000", "0.0.0").mostBreaches(), 2);
    }

    private static void promise25_theLowestNumberNotTheLowestPerson() {
        // The absence comes before the lacking skills, also on a later day and of a higher person.
        Rosterproof x = breaching("00", "00", "", "");
        x.teach(3, 0);
        fill(x, 3, "......00");
        x.setAbsent(3, 6, true);
        due(x.mostBreaches(), 0);
        x.setAbsent(3, 7, true);
        due(list(x), "a 3 6 -1, a 3 7 -1, k 0 0 -1, k 0 1 -1, k 1 0 -1, k 1 1 -1");
        due(x.mostBreaches(), 3);
        x.assign(1, 7, 0);
        due(x.mostBreaches(), 1);
    }

    private static void promise25_breachesOfOneKindOrOfSeveral() {
        // Person 0 has one breach of each of two kinds, person 1 three of one kind.
        Rosterproof x = breaching("0", "0.0.0", "", "");
        x.setAbsent(0, 0, true);
        due(x.mostBreaches(), 1);
        x.free(1, 4);
        due(x.mostBreaches(), 0);
    }

    private static void promise25_demandsAreNoPersons() {
        Rosterproof x = breaching("", "", "", "0");
        for (int day = 0; day < 8; day++) {
            x.setDemand(day, 0, 4);
        }
        due(x.breaches(), 9);
        due(x.mostBreaches(), 3);
    }

    private static void promise25_noPersonHasABreach() {
        refuses(Rosterproof::new, NO_SUCH, Rosterproof::mostBreaches);
        refuses(TestBase::pair, NO_SUCH, Rosterproof::mostBreaches);
        refuses(() -> demanding(4), NO_SUCH, Rosterproof::mostBreaches);
        changesNothing(TestBase::full, x -> due(x.mostBreaches(), 0));
    }

    // Promise 26: "Lets two persons exchange what they have for a day, if this brings no breach that is not there
    // before."

    private static void promise26_firstAndLastOfAll() {
        Rosterproof x = easy(4, 0, 1, 5, 1, 10, 1);
        fill(fill(x, 0, "2......1"), 3, "0.......");
        due(x.swap(0, 3, 0), 0);
        due(x.swap(3, 0, 7), 0);
        due(row(x, 0), "0....... ");
        due(row(x, 3), "2......1 ");
    }

    private static void promise26_bothFreeOrBothWithTheSame() {
        Rosterproof x = fill(fill(pair(), 0, "0"), 1, "0");
        x.setDemand(7, 0, 2);
        due(x.swap(0, 1, 0), 1);
        due(x.swap(1, 0, 7), 1);
        due(row(x, 0) + row(x, 1), "0....... 0....... ");
    }

    private static void promise26_backAgain() {
        Rosterproof x = fill(fill(pair(), 0, "0......1"), 1, "1.......");
        String before = row(x, 0) + row(x, 1);
        due(x.swap(0, 1, 0), 0);
        due(x.swap(0, 1, 0), 0);
        due(row(x, 0) + row(x, 1), before);
    }

    private static void promise26_breachesThatAreThereMayStay() {
        Rosterproof x = breaching("0", ".0", "", "");
        x.setAbsent(0, 0, true);
        due(x.breaches(), 3);
        due(thrown(() -> x.swap(0, 1, 0)), UNSUPPORTED);
        due(x.swap(0, 1, 2), 3);
        x.addShift(600, 60);
        x.assign(1, 0, 1);
        // Both lack the skill for both shifts, so that the exchange brings no breach.
        due(x.swap(0, 1, 0), 4);
        due(row(x, 0) + row(x, 1), "1....... 00...... ");
    }

    private static void promise26_fewerBreaches() {
        Rosterproof x = fill(pair(), 0, "10......");
        due(x.breaches(), 1);
        due(x.swap(1, 0, 1), 0);
        due(row(x, 0) + row(x, 1), "1....... .0...... ");
    }

    /** What one person has for day 3 goes to another one, for which it is a breach of one of the kinds. */
    private static void promise26_aBreachOfEachPersonsKindIsRefused() {
        refuses(() -> {
            Rosterproof x = fill(easy(2, 0, 60), 0, "...0");
            x.setAbsent(1, 3, true);
            return x;
        }, UNSUPPORTED, x -> x.swap(0, 1, 3));
        refuses(() -> {
            Rosterproof x = fill(easy(1, 0, 60), 0, "...0");
            x.addPerson();
            return x;
        }, UNSUPPORTED, x -> x.swap(0, 1, 3));
        refuses(() -> fill(fill(pair(), 0, "...1"), 1, "....0"), UNSUPPORTED, x -> x.swap(0, 1, 3));
        refuses(() -> fill(fill(pair(), 0, "...1"), 1, "111"), UNSUPPORTED, x -> x.swap(0, 1, 3));
        refuses(() -> fill(fill(pair(), 0, "...0"), 1, "000.000"), UNSUPPORTED, x -> x.swap(0, 1, 3));
        refuses(() -> {
            Rosterproof x = fill(fill(pair(), 0, "...0"), 1, "0.....0");
            x.setHours(7, 1439);
            return x;
        }, UNSUPPORTED, x -> x.swap(0, 1, 3));
    }

    private static void promise26_aBreachOfAnyPersonIsRefused() {
        // One person has a shift for day 7, on which another one is absent.
        for (int pair = 0; pair < 16; pair++) {
            int person = pair / 4;
            int other = pair % 4;
            Supplier<Rosterproof> maker = () -> {
                Rosterproof x = easy(4, 0, 60);
                x.assign(person, 7, 0);
                x.setAbsent(other, 7, person != other);
                return x;
            };
            refuses(maker, person == other ? ARGUMENT : UNSUPPORTED, x -> x.swap(person, other, 7));
            refuses(maker, person == other ? ARGUMENT : UNSUPPORTED, x -> x.swap(other, person, 7));
            refuses(maker, NO_SUCH, x -> x.partner(person, 7));
        }
    }

    private static void promise26_betweenAnyTwoPersons() {
        for (int pair = 0; pair < 16; pair++) {
            int person = pair / 4;
            int other = pair % 4;
            if (person != other) {
                Rosterproof x = easy(4, 0, 60, 600, 60);
                x.assign(person, 7, 1);
                due(x.swap(person, other, 7), 0);
                due(x.shiftOf(other, 7), 1);
                due(x.shiftOf(person, 7), -1);
                due(x.minutes(), 60L);
            }
        }
    }

    private static void promise26_oneBreachForAnotherIsRefused() {
        // The breach goes from one person to the other, or from one day to the next one: the number stays.
        refuses(() -> fill(fill(pair(), 0, ".10"), 1, "..0"), UNSUPPORTED, x -> x.swap(0, 1, 1));
        refuses(() -> fill(fill(pair(), 0, ".100"), 1, "..1"), UNSUPPORTED, x -> x.swap(0, 1, 2));
        refuses(() -> {
            Rosterproof x = breaching("0", "", "", "");
            x.setAbsent(0, 0, true);
            return x;
        }, UNSUPPORTED, x -> x.swap(0, 1, 0));
    }

    private static void promise26_noSuchPerson() {
        for (int person : NO_PERSON_OF_2) {
            refuses(BOUNDS, x -> x.swap(person, 1, 0));
            refuses(BOUNDS, x -> x.swap(0, person, 0));
        }
        for (int person : NO_PERSON_OF_4) {
            refuses(TestBase::full, BOUNDS, x -> x.swap(person, 0, 7));
            refuses(TestBase::full, BOUNDS, x -> x.swap(3, person, 7));
        }
    }

    private static void promise26_noSuchDay() {
        for (int day : NO_DAY) {
            refuses(BOUNDS, x -> x.swap(0, 1, day));
            refuses(TestBase::full, BOUNDS, x -> x.swap(3, 0, day));
        }
    }

    private static void promise26_bothTheSame() {
        refuses(ARGUMENT, x -> x.swap(0, 0, 0));
        refuses(ARGUMENT, x -> x.swap(1, 1, 7));
        refuses(TestBase::full, ARGUMENT, x -> x.swap(3, 3, 7));
    }

    private static void promise26_theBoundsGoBeforeTheSame() {
        refuses(BOUNDS, x -> x.swap(2, 2, 0));
        refuses(BOUNDS, x -> x.swap(-1, -1, 0));
        refuses(BOUNDS, x -> x.swap(1, 1, 8));
        refuses(BOUNDS, x -> x.swap(MAX, MAX, MAX));
    }

    private static void promise26_theBoundsGoBeforeTheBreach() {
        refuses(UNSUPPORTED, x -> x.swap(1, 0, 6));
        refuses(BOUNDS, x -> x.swap(1, 2, 6));
        refuses(BOUNDS, x -> x.swap(2, 0, 6));
    }

    // Promise 27: "the lowest-numbered person with whom a person could exchange what they have for a day by swap() so
    // that there are fewer breaches than before"

    /** Person 3 has a shift for day 5 that it lacks the skill for; the others have it or not. */
    private static Rosterproof helped(boolean byFirst, boolean bySecond, boolean byThird) {
        Rosterproof x = unskilled(".....0..");
        boolean[] helpers = {byFirst, bySecond, byThird};
        for (int person = 0; person < 3; person++) {
            if (helpers[person]) {
                x.teach(person, 0);
            }
        }
        return x;
    }

    private static void promise27_theLowestNumbered() {
        changesNothing(() -> helped(true, true, true), x -> due(x.partner(3, 5), 0));
        changesNothing(() -> helped(false, true, true), x -> due(x.partner(3, 5), 1));
        changesNothing(() -> helped(false, false, true), x -> due(x.partner(3, 5), 2));
        refuses(() -> helped(false, false, false), NO_SUCH, x -> x.partner(3, 5));
    }

    private static void promise27_lowerOrHigherThanThePerson() {
        due(helped(false, true, false).partner(3, 5), 1);
        due(helped(false, true, false).partner(1, 5), 3);
        due(thrown(() -> helped(false, true, false).partner(0, 5)), NO_SUCH);
    }

    private static void promise27_asManyBreachesAreNotFewer() {
        refuses(() -> fill(easy(4, 0, 60), 0, "00000000"), NO_SUCH, x -> x.partner(0, 0));
        // Both lack the skill, so that the breach would go from one to the other.
        refuses(() -> helped(false, false, false), NO_SUCH, x -> x.partner(3, 5));
        refuses(() -> helped(true, true, true), NO_SUCH, x -> x.partner(3, 4));
    }

    private static void promise27_fewerBreachesButANewOne() {
        // Person 0 would take two breaches away and bring a new one.
        Supplier<Rosterproof> maker = () -> {
            Rosterproof x = helped(true, false, false);
            x.setAbsent(3, 5, true);
            x.setAbsent(0, 5, true);
            return x;
        };
        due(maker.get().breaches(), 2);
        refuses(maker, NO_SUCH, x -> x.partner(3, 5));
        Rosterproof second = maker.get();
        second.teach(2, 0);
        due(second.partner(3, 5), 2);
    }

    private static void promise27_onTheFirstAndTheLastDay() {
        Rosterproof x = unskilled("0......0");
        x.teach(1, 0);
        due(x.partner(3, 0), 1);
        due(x.partner(3, 7), 1);
        due(x.partner(1, 7), 3);
    }

    private static void promise27_noOtherPerson() {
        refuses(() -> skilled(1, 0, 1), NO_SUCH, x -> x.partner(0, 0));
        refuses(EdgeTest::breachingAlone, NO_SUCH, x -> x.partner(0, 0));
    }

    private static Rosterproof breachingAlone() {
        Rosterproof x = skilled(1);
        x.addShift(0, 60);
        return fill(x, 0, "0");
    }

    private static void promise27_noSuchPerson() {
        for (int person : NO_PERSON_OF_2) {
            refuses(BOUNDS, x -> x.partner(person, 7));
        }
        for (int person : NO_PERSON_OF_4) {
            refuses(TestBase::full, BOUNDS, x -> x.partner(person, 7));
        }
    }

    private static void promise27_noSuchDay() {
        for (int day : NO_DAY) {
            refuses(BOUNDS, x -> x.partner(1, day));
            refuses(TestBase::full, BOUNDS, x -> x.partner(3, day));
        }
    }

    // Promises 28 to 30: "Returns the number of changes, 0 to 2." "NoSuchElementException if no set of at most 2
    // changes mends the roster"

    /** Returns a roster that so many changes mend; a negative number stands for more than two. */
    private static Rosterproof broken(int changes) {
        switch (changes) {
            case 0:
                return unskilled("........");
            case 1:
                return unskilled("0.......");
            case 2:
                return unskilled("0..0....");
            default:
                return unskilled("0.0.0...");
        }
    }

    private static void promise28_noneOneAndTwo() {
        for (int changes = 0; changes <= 2; changes++) {
            int want = changes;
            changesNothing(() -> broken(want), x -> due(x.leastChanges(), want));
        }
        changesNothing(Rosterproof::new, x -> due(x.leastChanges(), 0));
    }

    private static void promise28_moreThanTwo() {
        refuses(() -> broken(-1), NO_SUCH, Rosterproof::leastChanges);
        refuses(() -> demanding(3), NO_SUCH, Rosterproof::leastChanges);
        refuses(TestBase::full, NO_SUCH, Rosterproof::leastChanges);
    }

    private static void promise28_nothingCanMendIt() {
        refuses(() -> asking(0), NO_SUCH, Rosterproof::leastChanges);
        refuses(() -> asking(3), NO_SUCH, Rosterproof::leastChanges);
    }

    /** More persons are asked for than there are. */
    private static Rosterproof asking(int persons) {
        Rosterproof x = skilled(persons, 0, 1);
        x.setDemand(7, 0, persons + 1);
        return x;
    }

    /** A breach of each kind, and the least set that mends it. */
    private static void promise28_aBreachOfEachKind() {
        least(() -> {
            Rosterproof x = fill(easy(4, 0, 60), 3, ".......0");
            x.setAbsent(3, 7, true);
            return x;
        }, 1, "31=0");
        least(() -> unskilled(".......0"), 1, "31=0");
        least(() -> fill(skilled(4, 480, 480, 1320, 540), 3, "......10"), 1, "30=0");
        least(() -> fill(skilled(4, 480, 480, 1320, 540), 3, "....1111"), 1, "28=0");
        least(() -> fill(skilled(4, 480, 60, 1320, 60), 3, ".0000000"), 1, "25=0");
        least(() -> fill(skilled(4, 480, 480, 480, 481), 3, ".000.001"), 1, "25=0");
        least(() -> demanding(1), 1, "2=1");
    }

    /** One person alone can meet a demand, one cell alone holds a breach: the least set is this one. */
    private static void promise28_ofEachCell() {
        for (int cell = 0; cell < 32; cell++) {
            int person = cell / 8;
            int day = cell % 8;
            least(() -> {
                Rosterproof x = skilled(4);
                x.addShift(0, 60);
                x.teach(person, 0);
                x.setDemand(day, 0, 1);
                return x;
            }, 1, cell + "=1");
            least(() -> {
                Rosterproof x = easy(4, 0, 60, 100, 60);
                x.assign(person, day, 1);
                x.setAbsent(person, day, true);
                return x;
            }, 1, cell + "=0");
        }
    }

    /** All days but one are held by demands, so that the first breach gives way on this day alone. */
    private static void promise28_ofEachDayThatABreachHangsOn() {
        for (int day = 0; day < 8; day++) {
            int open = day;
            least(() -> held(open), 1, open + "=0");
            least(() -> {
                Rosterproof x = held(open);
                x.setNights(8);
                x.setRun(7);
                return x;
            }, 1, open + "=0");
            least(() -> {
                Rosterproof x = held(open);
                x.setNights(8);
                x.setHours(8, 4319);
                return x;
            }, 1, open + "=0");
        }
    }

    /** One person has the night shift for all days, one time too often, and is asked for on all days but one. */
    private static Rosterproof held(int open) {
        Rosterproof x = fill(easy(1, 1320, 540), 0, "00000000");
        x.setNights(7);
        for (int day = 0; day < 8; day++) {
            x.setDemand(day, 0, day == open ? 0 : 1);
        }
        return x;
    }

    private static void promise28_aRestOverAFreeDay() {
        Supplier<Rosterproof> maker = () -> {
            Rosterproof x = fill(easy(1, 1439, 720, 0, 1, 720, 1), 0, ".0.1");
            x.setRest(722);
            return x;
        };
        least(maker, 1, "1=0");
        // With one of the days held by a demand, the other one gives way; with both held, no shift between helps.
        least(() -> {
            Rosterproof x = maker.get();
            x.setDemand(1, 0, 1);
            return x;
        }, 1, "3=0");
        least(() -> {
            Rosterproof x = maker.get();
            x.setDemand(3, 1, 1);
            return x;
        }, 1, "1=0");
        least(() -> {
            Rosterproof x = maker.get();
            x.setDemand(1, 0, 1);
            x.setDemand(3, 1, 1);
            return x;
        }, -1, "");
    }

    private static void promise29_noneOneAndTwo() {
        for (int changes = 0; changes <= 2; changes++) {
            int want = changes;
            changesNothing(() -> broken(want), x -> due(x.leastByTrial(), want));
        }
        changesNothing(Rosterproof::new, x -> due(x.leastByTrial(), 0));
    }

    private static void promise29_moreThanTwo() {
        refuses(() -> broken(-1), NO_SUCH, Rosterproof::leastByTrial);
        refuses(() -> demanding(3), NO_SUCH, Rosterproof::leastByTrial);
        refuses(TestBase::full, NO_SUCH, Rosterproof::leastByTrial);
    }

    private static void promise29_nothingCanMendIt() {
        refuses(() -> asking(0), NO_SUCH, Rosterproof::leastByTrial);
        refuses(() -> asking(3), NO_SUCH, Rosterproof::leastByTrial);
    }

    private static void promise29_changesOfTwoPersonsOnTwoDays() {
        least(() -> {
            Rosterproof x = unskilled(".......0");
            return fill(x, 0, "0.......");
        }, 2, "0=0 31=0");
    }

    private static void promise30_none() {
        Rosterproof x = broken(0);
        due(x.mend(), 0);
        due(everything(x), everything(broken(0)));
    }

    private static void promise30_one() {
        Rosterproof x = broken(1);
        due(x.mend(), 1);
        due(row(x, 3), "........ ");
        due(x.breaches(), 0);
        due(x.mend(), 0);
    }

    private static void promise30_two() {
        Rosterproof x = broken(2);
        due(x.mend(), 2);
        due(row(x, 3), "........ ");
        due(x.breaches(), 0);
        due(x.mend(), 0);
    }

    private static void promise30_moreThanTwo() {
        refuses(() -> broken(-1), NO_SUCH, Rosterproof::mend);
        refuses(() -> demanding(3), NO_SUCH, Rosterproof::mend);
        refuses(TestBase::full, NO_SUCH, Rosterproof::mend);
        refuses(() -> asking(3), NO_SUCH, Rosterproof::mend);
    }

    private static void promise30_changesTheLeastSetAlone() {
        Rosterproof x = demanding(2);
        fill(x, 3, "0..1...0");
        due(x.mend(), 2);
        due(row(x, 0) + row(x, 1), "..0..... ..0..... ");
        due(row(x, 2) + row(x, 3), "........ 0..1...0 ");
    }

    // Promises 31 and 32: "a change that the last call of mend() made", "NoSuchElementException if there is no such
    // change, or mend() has made none so far"

    private static Rosterproof mended() {
        Rosterproof x = unskilled("0......0");
        x.mend();
        return x;
    }

    private static void promise31_firstAndLast() {
        due(mended().changedCell(0), 24);
        due(mended().changedCell(1), 31);
        Rosterproof x = demanding(2);
        x.mend();
        due(x.changedCell(0), 2);
        due(x.changedCell(1), 10);
    }

    private static void promise31_noSuchChange() {
        for (int index : NO_CHANGE_OF_2) {
            refuses(EdgeTest::mended, NO_SUCH, x -> x.changedCell(index));
        }
        for (int index : new int[] {-1, 1, 2, MIN, MAX}) {
            refuses(NO_SUCH, x -> x.changedCell(index));
        }
    }

    private static void promise31_noCallOfMendSoFar() {
        for (int index : new int[] {-1, 0, 1, MIN, MAX}) {
            refuses(Rosterproof::new, NO_SUCH, x -> x.changedCell(index));
            refuses(() -> broken(2), NO_SUCH, x -> x.changedCell(index));
            refuses(TestBase::full, NO_SUCH, x -> x.changedCell(index));
        }
    }

    private static void promise31_afterACallThatMadeNoChange() {
        Rosterproof x = new Rosterproof();
        due(x.mend(), 0);
        due(thrown(() -> x.changedCell(0)), NO_SUCH);
        Rosterproof y = mended();
        due(y.mend(), 0);
        due(thrown(() -> y.changedCell(0)), NO_SUCH);
        due(thrown(() -> y.changedCell(1)), NO_SUCH);
    }

    private static void promise31_afterACallThatMadeFewerChanges() {
        Rosterproof x = fill(mended(), 3, "..0");
        due(x.mend(), 1);
        due(x.changedCell(0), 26);
        due(thrown(() -> x.changedCell(1)), NO_SUCH);
    }

    private static void promise31_afterARefusedCallOrALookAtTheLeastSet() {
        Rosterproof x = fill(mended(), 3, ".00.0");
        due(thrown(x::mend), NO_SUCH);
        due(thrown(x::leastByTrial), NO_SUCH);
        due(x.changedCell(0), 24);
        due(x.changedCell(1), 31);
        x.free(3, 4);
        due(x.leastByTrial(), 2);
        due(x.leastChanges(), 2);
        due(x.isSound(), true);
        due(x.changedCell(0), 24);
        due(x.changedCell(1), 31);
    }

    private static void promise32_firstAndLast() {
        due(mended().changedValue(0), 0);
        due(mended().changedValue(1), 0);
        Rosterproof x = easy(1, 0, 1, 5, 1, 10, 1);
        x.setDemand(0, 2, 1);
        x.setDemand(7, 0, 1);
        x.mend();
        due(x.changedValue(0), 3);
        due(x.changedValue(1), 1);
    }

    private static void promise32_noSuchChange() {
        for (int index : NO_CHANGE_OF_2) {
            refuses(EdgeTest::mended, NO_SUCH, x -> x.changedValue(index));
        }
        for (int index : new int[] {-1, 1, 2, MIN, MAX}) {
            refuses(NO_SUCH, x -> x.changedValue(index));
        }
    }

    private static void promise32_noCallOfMendSoFar() {
        for (int index : new int[] {-1, 0, 1, MIN, MAX}) {
            refuses(Rosterproof::new, NO_SUCH, x -> x.changedValue(index));
            refuses(() -> broken(2), NO_SUCH, x -> x.changedValue(index));
            refuses(TestBase::full, NO_SUCH, x -> x.changedValue(index));
        }
    }

    private static void promise32_afterACallThatMadeNoChange() {
        Rosterproof x = mended();
        due(x.mend(), 0);
        due(thrown(() -> x.changedValue(0)), NO_SUCH);
        due(thrown(() -> x.changedValue(1)), NO_SUCH);
    }

    private static void promise32_afterACallThatMadeFewerChanges() {
        Rosterproof x = mended();
        x.teach(2, 0);
        x.setDemand(4, 0, 1);
        due(x.mend(), 1);
        due(x.changedValue(0), 1);
        due(thrown(() -> x.changedValue(1)), NO_SUCH);
    }

    private static void promise32_afterARefusedCallOrALookAtTheLeastSet() {
        Rosterproof x = demanding(2);
        x.mend();
        x.setDemand(7, 1, 3);
        due(thrown(x::mend), NO_SUCH);
        due(x.changedValue(0), 1);
        x.setDemand(7, 1, 2);
        due(x.leastByTrial(), 2);
        due(x.changedValue(0), 1);
        due(x.changedValue(1), 1);
    }

    // Promise 33: "Returns the sum of the lengths of all shifts that all persons have."

    private static void promise33_none() {
        due(new Rosterproof().minutes(), 0L);
        due(pair().minutes(), 0L);
    }

    private static void promise33_ofTheFirstAndTheLastCell() {
        Rosterproof x = easy(4, 0, 1, 0, 20, 0, 700);
        x.assign(0, 0, 0);
        due(x.minutes(), 1L);
        x.assign(3, 7, 2);
        due(x.minutes(), 701L);
        x.assign(3, 7, 1);
        due(x.minutes(), 21L);
        x.free(0, 0);
        due(x.minutes(), 20L);
    }

    private static void promise33_all() {
        due(full().minutes(), 32L * 720);
    }

    // Promise 34: "the number of days for which the person has a shift divided by 8, both converted to float"

    private static void promise34_fromNoneToAllDays() {
        for (int days = 0; days <= 8; days++) {
            Rosterproof x = fill(skilled(4, 0, 1), 3, "00000000".substring(0, days));
            due(x.workShare(3), days * 0.125f);
            due(x.workShare(0), 0.0f);
        }
    }

    private static void promise34_noSuchPerson() {
        for (int person : NO_PERSON_OF_2) {
            refuses(BOUNDS, x -> x.workShare(person));
        }
        for (int person : NO_PERSON_OF_4) {
            refuses(TestBase::full, BOUNDS, x -> x.workShare(person));
        }
    }

    // Promise 35: "the sum of the minutes that restBefore() returns for all days for which it returns something,
    // divided by the number of these days"

    private static void promise35_ofOneDay() {
        due(fill(pair(), 0, "10......").meanRest(0), 60.0);
        due(fill(pair(), 0, "......10").meanRest(0), 60.0);
        due(fill(pair(), 0, "0......1").meanRest(0), (double) (7 * 1440 + 360));
    }

    private static void promise35_ofAllDays() {
        due(full().meanRest(3), 720.0);
        due(fill(skilled(1, 0, 1, 0, 2), 0, "00000001").meanRest(0), 1439.0);
        due(fill(skilled(1, 0, 1, 1, 1), 0, "00000001").meanRest(0), (7 * 1439 + 1) / 7.0);
    }

    private static void promise35_ofRestsAround0() {
        due(fill(skilled(1, 720, 720, 0, 1), 0, "01").meanRest(0), 0.0);
        due(fill(skilled(1, 721, 720, 0, 1), 0, "01").meanRest(0), -1.0);
        due(fill(skilled(1, 1439, 720, 0, 1), 0, "01").meanRest(0), -719.0);
        due(fill(skilled(1, 1439, 720, 0, 1), 0, "010").meanRest(0), (-719 + 2878) / 2.0);
    }

    private static void promise35_noSuchPerson() {
        for (int person : NO_PERSON_OF_2) {
            refuses(BOUNDS, x -> x.meanRest(person));
        }
        for (int person : NO_PERSON_OF_4) {
            refuses(TestBase::full, BOUNDS, x -> x.meanRest(person));
        }
    }

    private static void promise35_noSuchDay() {
        refuses(() -> skilled(1, 0, 1), ARITHMETIC, x -> x.meanRest(0));
        refuses(() -> fill(pair(), 0, "0......."), ARITHMETIC, x -> x.meanRest(0));
        refuses(() -> fill(pair(), 1, ".......1"), ARITHMETIC, x -> x.meanRest(1));
    }

    private static void promise35_thePersonGoesBeforeTheDay() {
        refuses(Rosterproof::new, BOUNDS, x -> x.meanRest(0));
        refuses(TestBase::pair, BOUNDS, x -> x.meanRest(2));
    }

    // Promise 36: "Checks whether both ways .. agree for each person, and both ways of the number of changes agree."

    private static void promise36_emptyAndFull() {
        changesNothing(Rosterproof::new, x -> due(x.isSound(), true));
        changesNothing(TestBase::full, x -> due(x.isSound(), true));
        changesNothing(TestBase::busy, x -> due(x.isSound(), true));
    }

    private static void promise36_withEachNumberOfChanges() {
        for (int changes = -1; changes <= 2; changes++) {
            int number = changes;
            changesNothing(() -> broken(number), x -> due(x.isSound(), true));
        }
    }

    private static void promise36_withEachSpanAndRow() {
        for (int span = 1; span <= 8; span++) {
            Rosterproof x = nightly("11111111".substring(0, span));
            x.setHours(span, 0);
            due(x.isSound(), true);
        }
    }

    /** Each promise has a test here. */
    private static void promisesAllHaveATest() {
        Set<String> promises = new TreeSet<>();
        for (Method method : EdgeTest.class.getDeclaredMethods()) {
            if (method.getName().matches("promise[0-9][0-9]_.*")) {
                promises.add(method.getName().substring(0, 9));
            }
        }
        due(promises.size(), 36);
    }

    public static void main(String[] args) {
        runAll(EdgeTest.class);
    }
}
