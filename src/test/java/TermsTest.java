import java.util.List;
import java.util.function.Consumer;
import java.util.function.Supplier;

/**
 * The sentences of "Terms" that name a boundary, and the one on 512 calls, a test each: its name begins with the
 * paragraph, roster, shifts, rules, breaches, changes or exceptions, or with calls.
 */
public final class TermsTest extends TestBase {
    private static final int CALLS = 512;

    // "An object is used for at most 512 calls"

    /** Makes calls till 512 have been made, of which so many came before; each answers the same. */
    private static void callToTheLast(int before, Supplier<Object> call) {
        String first = answer(call);
        for (int calls = before + 1; calls < CALLS; calls++) {
            due(answer(call), first);
        }
    }

    private static void calls_512OnAnEmptyRoster() {
        Rosterproof x = new Rosterproof();
        callToTheLast(0, x::isSound);
        Rosterproof y = new Rosterproof();
        callToTheLast(0, y::mend);
    }

    private static void calls_512LooksAtAFullRoster() {
        Rosterproof kinds = full();
        callToTheLast(99, () -> kinds.breachKind(195));
        Rosterproof most = full();
        callToTheLast(99, most::mostBreaches);
        Rosterproof least = full();
        callToTheLast(99, least::leastByTrial);
        Rosterproof sound = full();
        callToTheLast(99, sound::isSound);
    }

    private static void calls_512RefusedOnAFullRoster() {
        Rosterproof mend = full();
        callToTheLast(99, mend::mend);
        Rosterproof add = full();
        callToTheLast(99, add::addPerson);
        Rosterproof swap = full();
        callToTheLast(99, () -> swap.swap(0, 0, 0));
        due(swap.shiftOf(3, 7), 0);
    }

    private static void calls_512ThatAllChangeTheRoster() {
        Rosterproof x = easy(1, 0, 1, 5, 1);
        // 9 calls so far; 499 more here and 4 behind them make 512.
        due(x.assign(0, 7, 0), -1);
        for (int call = 0; call < 498; call++) {
            due(x.assign(0, 7, (call + 1) % 2), call % 2);
        }
        due(x.free(0, 7), 0);
        due(x.setAbsent(0, 7, true), false);
        due(x.minutes(), 0L);
        due(x.breaches(), 0);
    }

    private static void calls_512WithMendsBetween() {
        Rosterproof x = skilled(1, 480, 480);
        x.setAbsent(0, 7, true);
        // 4 calls so far; 4 in each of 127 rounds make 512.
        for (int round = 0; round < 127; round++) {
            due(x.assign(0, 7, 0), -1);
            due(x.mend(), 1);
            due(x.changedCell(0), 7);
            due(x.changedValue(0), 0);
        }
    }

    // "There are 8 days, numbered from 0 to 7, and at most 4 persons, numbered from 0."

    private static void roster_firstAndLastDay() {
        for (int day : new int[] {0, 7}) {
            Rosterproof x = pair();
            due(x.setDemand(day, 1, 4), 0);
            due(x.assign(1, day, 1), -1);
            due(x.setAbsent(1, day, true), false);
            due(x.shiftOf(1, day), 1);
            due(list(x), "a 1 " + day + " -1, d -1 " + day + " 1");
            x.setAbsent(1, day, false);
            due(x.swap(0, 1, day), 1);
            due(x.free(0, day), 1);
        }
    }

    private static void roster_eightDays() {
        Rosterproof x = easy(1, 0, 1);
        for (int day = 0; day < 8; day++) {
            due(x.assign(0, day, 0), -1);
            due(x.minutes(), (long) day + 1);
        }
    }

    private static void roster_dayBelow0OrAbove7() {
        for (int day : NO_DAY) {
            refuses(BOUNDS, x -> x.setDemand(day, 1, 1));
            refuses(BOUNDS, x -> x.assign(1, day, 1));
            refuses(BOUNDS, x -> x.free(1, day));
            refuses(BOUNDS, x -> x.setAbsent(1, day, true));
            refuses(BOUNDS, x -> x.shiftOf(1, day));
            refuses(BOUNDS, x -> x.restBefore(1, day));
            refuses(BOUNDS, x -> x.swap(0, 1, day));
            refuses(BOUNDS, x -> x.partner(1, day));
        }
    }

    private static void roster_atMost4Persons() {
        Rosterproof x = new Rosterproof();
        for (int person = 0; person < 4; person++) {
            due(x.addPerson(), person);
        }
        due(thrown(x::addPerson), STATE);
        due(thrown(x::addPerson), STATE);
        due(thrown(() -> x.shiftOf(4, 0)), BOUNDS);
        due(x.shiftOf(3, 7), -1);
    }

    /** Each call with a person, for a person that is not there. */
    private static List<Consumer<Rosterproof>> callsWith(int person) {
        return List.of(x -> x.teach(person, 0), x -> x.assign(person, 0, 0), x -> x.free(person, 0),
                x -> x.setAbsent(person, 0, true), x -> x.shiftOf(person, 0), x -> x.restBefore(person, 1),
                x -> x.longestNights(person), x -> x.longestByRows(person), x -> x.peak(person),
                x -> x.peakByAdding(person), x -> x.swap(person, 0, 0), x -> x.swap(0, person, 0),
                x -> x.swap(person, person, 0), x -> x.partner(person, 0), x -> x.workShare(person),
                x -> x.meanRest(person));
    }

    private static void roster_personBelow0OrTooLarge() {
        for (int person : NO_PERSON_OF_2) {
            callsWith(person).forEach(call -> refuses(BOUNDS, call));
        }
    }

    private static void roster_personThatAFullRosterHasNot() {
        for (int person : NO_PERSON_OF_4) {
            callsWith(person).forEach(call -> refuses(TestBase::full, BOUNDS, call));
        }
    }

    private static void roster_noPerson() {
        for (int person : new int[] {-1, 0, 1, 3, MIN, MAX}) {
            callsWith(person).forEach(call -> refuses(Rosterproof::new, BOUNDS, call));
        }
    }

    // "Each person has for each day a shift, or is free on it; at first a person is free on all days."

    private static void roster_freeOnAllDaysAtFirst() {
        Rosterproof x = skilled(4, 480, 480);
        for (int person = 0; person < 4; person++) {
            due(row(x, person), "........ ");
        }
    }

    private static void roster_aShiftForOnePersonAndDayAlone() {
        for (int cell = 0; cell < 32; cell++) {
            Rosterproof x = easy(4, 0, 1);
            x.assign(cell / 8, cell % 8, 0);
            for (int other = 0; other < 32; other++) {
                due(x.shiftOf(other / 8, other % 8), other == cell ? 0 : -1);
            }
            due(x.minutes(), 1L);
        }
    }

    private static void roster_everyPersonWithAShiftForEveryDay() {
        Rosterproof x = easy(4, 0, 1, 1, 2, 2, 4);
        for (int person = 0; person < 4; person++) {
            fill(x, person, "01201201");
        }
        for (int person = 0; person < 4; person++) {
            due(row(x, person), "01201201 ");
            due(x.workShare(person), 1.0f);
        }
        due(x.minutes(), 4L * 17);
        due(x.breaches(), 0);
    }

    private static void roster_withoutPersonsAndShifts() {
        Rosterproof x = new Rosterproof();
        due(list(x), "");
        due(x.breaches(), 0);
        due(thrown(x::mostBreaches), NO_SUCH);
        due(x.minutes(), 0L);
        due(x.leastChanges(), 0);
        due(x.leastByTrial(), 0);
        due(x.mend(), 0);
        due(changes(x), "");
        due(x.isSound(), true);
    }

    private static void roster_withPersonsAndNoShifts() {
        Rosterproof x = skilled(4);
        due(thrown(() -> x.assign(0, 0, 0)), NO_SUCH);
        due(x.breaches(), 0);
        due(x.swap(0, 3, 7), 0);
        due(thrown(() -> x.partner(3, 7)), NO_SUCH);
        due(x.mend(), 0);
    }

    private static void roster_withShiftsAndNoPersons() {
        Rosterproof x = skilled(0, 480, 480, 1320, 540, 0, 1);
        due(x.setDemand(7, 2, 1), 0);
        due(list(x), "d -1 7 2");
        due(thrown(x::mostBreaches), NO_SUCH);
        due(thrown(x::mend), NO_SUCH);
        due(thrown(x::leastChanges), NO_SUCH);
        due(x.isSound(), true);
    }

    // "A person is absent on some days, at first on none."

    private static void roster_absentOnNoDayAtFirst() {
        Rosterproof x = easy(4, 0, 1);
        for (int person = 0; person < 4; person++) {
            fill(x, person, "00000000");
        }
        due(list(x), "");
        for (int cell = 0; cell < 32; cell++) {
            due(x.setAbsent(cell / 8, cell % 8, false), false);
        }
    }

    private static void roster_absentOnOneDayAlone() {
        for (int cell = 0; cell < 32; cell++) {
            Rosterproof x = easy(4, 0, 1);
            x.setAbsent(cell / 8, cell % 8, true);
            for (int other = 0; other < 32; other++) {
                due(x.setAbsent(other / 8, other % 8, true), other == cell);
            }
        }
    }

    private static void roster_absentOnAllDays() {
        Rosterproof x = easy(1, 0, 1);
        for (int day = 0; day < 8; day++) {
            x.setAbsent(0, day, true);
        }
        due(x.breaches(), 0);
        fill(x, 0, "00000000");
        due(x.breaches(), 8);
    }

    // "At most 3 shifts are numbered from 0. A shift has a start, 0 to 1439, and a length, 1 to 720, in minutes."

    private static void shifts_atMost3NumberedFrom0() {
        Rosterproof x = new Rosterproof();
        for (int shift = 0; shift < 3; shift++) {
            int number = shift;
            due(thrown(() -> x.isNight(number)), NO_SUCH);
            due(x.addShift(1439, 720), shift);
            due(x.isNight(shift), true);
        }
        due(thrown(() -> x.addShift(1439, 720)), STATE);
        due(thrown(() -> x.isNight(3)), NO_SUCH);
    }

    private static void shifts_shiftBelow0OrTooLarge() {
        for (int shift : NO_SHIFT_OF_2) {
            refuses(NO_SUCH, x -> x.isNight(shift));
            refuses(NO_SUCH, x -> x.teach(1, shift));
            refuses(NO_SUCH, x -> x.setDemand(7, shift, 1));
            refuses(NO_SUCH, x -> x.assign(1, 7, shift));
        }
    }

    private static void shifts_shiftThatAFullRosterHasNot() {
        for (int shift : NO_SHIFT_OF_3) {
            refuses(TestBase::full, NO_SUCH, x -> x.isNight(shift));
            refuses(TestBase::full, NO_SUCH, x -> x.teach(3, shift));
            refuses(TestBase::full, NO_SUCH, x -> x.setDemand(7, shift, 1));
            refuses(TestBase::full, NO_SUCH, x -> x.assign(3, 7, shift));
        }
    }

    private static void shifts_noShift() {
        for (int shift : new int[] {-1, 0, 1, 2, MIN, MAX}) {
            refuses(() -> skilled(4), NO_SUCH, x -> x.isNight(shift));
            refuses(() -> skilled(4), NO_SUCH, x -> x.teach(0, shift));
            refuses(() -> skilled(4), NO_SUCH, x -> x.setDemand(0, shift, 0));
            refuses(() -> skilled(4), NO_SUCH, x -> x.assign(0, 0, shift));
        }
    }

    private static void shifts_startFrom0To1439() {
        for (int start : new int[] {0, 1, 1438, 1439}) {
            // The first shift ends at the midnight before day 1, so that the rest is the start of the second one.
            Rosterproof x = fill(skilled(1, 720, 720, start, 1), 0, "01");
            due(x.restBefore(0, 1), start);
        }
        for (int start : new int[] {-1, 1440, MIN, MAX}) {
            due(thrown(() -> new Rosterproof().addShift(start, 1)), ARGUMENT);
            due(thrown(() -> new Rosterproof().addShift(start, 720)), ARGUMENT);
        }
    }

    private static void shifts_lengthFrom1To720() {
        for (int length : new int[] {1, 2, 719, 720}) {
            due(fill(skilled(1, 1439, length), 0, "0").minutes(), (long) length);
        }
        for (int length : new int[] {0, 721, -1, MIN, MAX}) {
            due(thrown(() -> new Rosterproof().addShift(0, length)), ARGUMENT);
            due(thrown(() -> new Rosterproof().addShift(1439, length)), ARGUMENT);
        }
    }

    // "A person who has it for a day works from the minute "start" .. for that length; it can end on the next day."

    private static void shifts_endAtMidnightAndOnTheNextDay() {
        int[][] lateShifts = {{1439, 1}, {1439, 2}, {720, 720}, {1439, 720}, {721, 720}};
        int[] rests = {0, -1, 0, -719, -1};
        for (int i = 0; i < rests.length; i++) {
            Rosterproof x = fill(skilled(1, lateShifts[i][0], lateShifts[i][1], 0, 1), 0, "01");
            due(x.restBefore(0, 1), rests[i]);
        }
    }

    private static void shifts_thatEndsOnDay8() {
        Rosterproof x = fill(skilled(1, 1439, 720), 0, ".......0");
        due(x.breaches(), 0);
        due(x.minutes(), 720L);
        due(x.peak(0), 720);
        due(x.longestNights(0), 1);
    }

    // "It is a night shift if .. its start plus its length is greater than 1620"

    private static void shifts_nightFor1620And1621() {
        for (int[] shift : new int[][] {{900, 720}, {901, 719}, {1080, 540}, {1260, 360}, {1439, 181}}) {
            due(skilled(0, shift[0], shift[1]).isNight(0), false);
            due(skilled(0, shift[0] - 1, shift[1]).isNight(0), false);
            due(skilled(0, shift[0], shift[1] - 1).isNight(0), false);
        }
        for (int[] shift : new int[][] {{901, 720}, {902, 719}, {1080, 541}, {1260, 361}, {1439, 182}}) {
            due(skilled(0, shift[0], shift[1]).isNight(0), true);
        }
    }

    private static void shifts_nightForEachStart() {
        for (int start = 0; start < 1440; start++) {
            int most = Math.min(720, 1620 - start);
            due(skilled(0, start, 1).isNight(0), false);
            due(skilled(0, start, most).isNight(0), false);
            if (most < 720) {
                due(skilled(0, start, most + 1).isNight(0), true);
                due(skilled(0, start, 720).isNight(0), true);
            }
        }
    }

    /** A shift that contains the minute 180 of its own day is none for that. */
    private static void shifts_noNightByTheMinute180OfItsOwnDay() {
        for (int[] shift : new int[][] {{0, 720}, {180, 1}, {179, 2}, {0, 181}, {180, 720}}) {
            Rosterproof x = fill(skilled(1, shift[0], shift[1]), 0, "00000000");
            due(x.isNight(0), false);
            due(x.longestNights(0), 0);
        }
    }

    // "A person has skills for some shifts, at first for none."

    private static void shifts_noSkillsAtFirst() {
        Rosterproof x = full();
        for (int person = 0; person < 4; person++) {
            for (int shift = 0; shift < 3; shift++) {
                due(x.teach(person, shift), true);
            }
        }
    }

    private static void shifts_skillOfOnePersonForOneShiftAlone() {
        for (int skill = 0; skill < 12; skill++) {
            Rosterproof x = full();
            x.teach(skill / 3, skill % 3);
            for (int other = 0; other < 12; other++) {
                due(x.teach(other / 3, other % 3), other != skill);
            }
        }
    }

    // "the rest, 0 to 2000 minutes, at first 660"

    /** Person 0 has a rest of this number of minutes, 0 to 2159, before day 1 or day 2. */
    private static Rosterproof resting(int rest) {
        Rosterproof x = rest < 1440
                ? fill(skilled(1, 720, 720, rest, 1), 0, "01")
                : fill(skilled(1, 720, 720, rest - 1440, 1), 0, "0.1");
        due(x.restBefore(0, rest < 1440 ? 1 : 2), rest);
        return x;
    }

    private static void rules_restAtFirst660() {
        due(list(resting(659)), "r 0 1 -1");
        due(list(resting(660)), "");
        due(list(resting(661)), "");
        due(new Rosterproof().setRest(0), 660);
    }

    private static void rules_restFrom0To2000() {
        for (int rest : new int[] {0, 1, 1999, 2000}) {
            Rosterproof x = new Rosterproof();
            x.setRest(rest);
            due(x.setRest(1000), rest);
        }
        for (int rest : new int[] {-1, 2001, MIN, MAX}) {
            refuses(ARGUMENT, x -> x.setRest(rest));
            refuses(Rosterproof::new, ARGUMENT, x -> x.setRest(rest));
        }
    }

    // "the nights, 1 to 8, at first 3"

    private static void rules_nightsAtFirst3() {
        due(list(fill(pair(), 0, "111")), "");
        due(list(fill(pair(), 0, "1111")), "n 0 3 -1");
        due(new Rosterproof().setNights(1), 3);
    }

    private static void rules_nightsFrom1To8() {
        for (int nights = 1; nights <= 8; nights++) {
            Rosterproof x = new Rosterproof();
            x.setNights(nights);
            due(x.setNights(1), nights);
        }
        for (int nights : new int[] {0, 9, -1, MIN, MAX}) {
            refuses(ARGUMENT, x -> x.setNights(nights));
            refuses(Rosterproof::new, ARGUMENT, x -> x.setNights(nights));
        }
    }

    // "the run, 1 to 8, at first 6"

    private static void rules_runAtFirst6() {
        due(list(fill(skilled(1, 480, 60), 0, "000000")), "");
        due(list(fill(skilled(1, 480, 60), 0, "0000000")), "w 0 6 -1");
        due(new Rosterproof().setRun(1), 6);
    }

    private static void rules_runFrom1To8() {
        for (int run = 1; run <= 8; run++) {
            Rosterproof x = new Rosterproof();
            x.setRun(run);
            due(x.setRun(1), run);
        }
        for (int run : new int[] {0, 9, -1, MIN, MAX}) {
            refuses(ARGUMENT, x -> x.setRun(run));
            refuses(Rosterproof::new, ARGUMENT, x -> x.setRun(run));
        }
    }

    // "the span, 1 to 8 days, at first 7"

    private static void rules_spanAtFirst7() {
        Rosterproof x = fill(skilled(1, 0, 1), 0, "00000000");
        due(x.peak(0), 7);
        due(x.peakByAdding(0), 7);
    }

    private static void rules_spanFrom1To8() {
        for (int span = 1; span <= 8; span++) {
            Rosterproof x = fill(skilled(1, 0, 1), 0, "00000000");
            x.setHours(span, 0);
            due(x.peak(0), span);
            due(x.peakByAdding(0), span);
        }
        for (int span : new int[] {0, 9, -1, MIN, MAX}) {
            refuses(ARGUMENT, x -> x.setHours(span, 0));
            refuses(ARGUMENT, x -> x.setHours(span, 6000));
        }
    }

    // "the limit, 0 to 6000 minutes, at first 2880"

    private static void rules_limitAtFirst2880() {
        due(list(fill(skilled(1, 480, 480), 0, "000.000")), "");
        due(list(fill(skilled(1, 480, 480, 480, 481), 0, "000.001")), "h 0 0 -1");
        due(new Rosterproof().setHours(1, 0), 2880);
    }

    private static void rules_limitFrom0To6000() {
        for (int limit : new int[] {0, 1, 5999, 6000}) {
            Rosterproof x = new Rosterproof();
            x.setHours(8, limit);
            due(x.setHours(1, 3000), limit);
        }
        for (int limit : new int[] {-1, 6001, MIN, MAX}) {
            refuses(ARGUMENT, x -> x.setHours(1, limit));
            refuses(ARGUMENT, x -> x.setHours(8, limit));
        }
    }

    // "For each day and shift there is a demand, 0 to 4, at first 0."

    private static void rules_demandAtFirst0() {
        Rosterproof x = skilled(0, 0, 1, 0, 1, 0, 1);
        due(x.breaches(), 0);
        for (int post = 0; post < 24; post++) {
            due(x.setDemand(post / 3, post % 3, 4), 0);
        }
    }

    private static void rules_demandForOneDayAndShiftAlone() {
        for (int post = 0; post < 24; post++) {
            Rosterproof x = skilled(4, 0, 1, 0, 1, 0, 1);
            x.setDemand(post / 3, post % 3, 3);
            for (int other = 0; other < 24; other++) {
                due(x.setDemand(other / 3, other % 3, 0), other == post ? 3 : 0);
            }
        }
    }

    private static void rules_demandFrom0To4() {
        for (int demand = 0; demand <= 4; demand++) {
            Rosterproof x = skilled(0, 0, 1);
            due(x.setDemand(7, 0, demand), 0);
            due(x.breaches(), demand == 0 ? 0 : 1);
            due(x.setDemand(7, 0, 0), demand);
        }
        for (int demand : new int[] {-1, 5, MIN, MAX}) {
            refuses(ARGUMENT, x -> x.setDemand(7, 1, demand));
            refuses(TestBase::full, ARGUMENT, x -> x.setDemand(0, 0, demand));
        }
    }

    // "'a' for a person and a day: the person has a shift for the day and is absent on it."

    private static void breaches_aNeedsTheShiftAndTheAbsence() {
        Rosterproof x = fill(pair(), 1, ".0.....0");
        x.setAbsent(1, 0, true);
        x.setAbsent(0, 1, true);
        x.setAbsent(1, 2, true);
        due(list(x), "");
        x.setAbsent(1, 1, true);
        due(list(x), "a 1 1 -1");
        x.free(1, 1);
        due(list(x), "");
    }

    private static void breaches_aOnTheFirstAndTheLastDay() {
        Rosterproof x = fill(pair(), 1, "0......0");
        x.setAbsent(1, 0, true);
        x.setAbsent(1, 7, true);
        due(list(x), "a 1 0 -1, a 1 7 -1");
    }

    // "'k' for a person and a day: the person has a shift for the day without the skill for it."

    private static void breaches_kNeedsTheShiftWithoutItsSkill() {
        Rosterproof x = skilled(4);
        x.addShift(0, 60);
        x.addShift(600, 60);
        x.addShift(1200, 60);
        due(list(x), "");
        fill(x, 2, "0..1...2");
        due(list(x), "k 2 0 -1, k 2 3 -1, k 2 7 -1");
        x.teach(2, 1);
        due(list(x), "k 2 0 -1, k 2 7 -1");
        x.teach(1, 0);
        x.teach(3, 0);
        due(list(x), "k 2 0 -1, k 2 7 -1");
        x.teach(2, 0);
        x.teach(2, 2);
        due(list(x), "");
    }

    // "'r' ..: the person has a shift for the day and one for an earlier day, and .. there are fewer minutes than the
    // rest (fewer than 0 if it starts before the earlier one ends)."

    private static void breaches_rWithTheRestOneMoreAndOneLess() {
        for (int rest : new int[] {1, 2, 659, 661, 1439, 1440, 1441, 1999, 2000}) {
            Rosterproof x = resting(rest);
            String breach = "r 0 " + (rest < 1440 ? 1 : 2) + " -1";
            x.setRest(rest);
            due(list(x), "");
            x.setRest(rest - 1);
            due(list(x), "");
            x.setRest(Math.min(rest + 1, 2000));
            due(list(x), rest < 2000 ? breach : "");
        }
        Rosterproof x = resting(2001);
        x.setRest(2000);
        due(list(x), "");
    }

    private static void breaches_rWithNoMinuteBetween() {
        Rosterproof x = resting(0);
        x.setRest(0);
        due(list(x), "");
        x.setRest(1);
        due(list(x), "r 0 1 -1");
    }

    private static void breaches_rWithFewerThan0Minutes() {
        for (int length : new int[] {2, 720}) {
            Rosterproof x = fill(skilled(1, 1439, length, 0, 1), 0, "01");
            x.setRest(0);
            due(list(x), "r 0 1 -1");
        }
    }

    private static void breaches_rNeedsAnEarlierDay() {
        Rosterproof x = skilled(1, 0, 1);
        x.setRest(2000);
        due(list(x), "");
        for (int day = 0; day < 8; day++) {
            x.assign(0, day, 0);
            due(list(x), "");
            x.free(0, day);
        }
    }

    private static void breaches_rCountsFromTheLatestEarlierDay() {
        // From day 0 to day 2 there are 721 minutes, from day 1 to day 2 there are 1439.
        Rosterproof x = fill(skilled(1, 1439, 720, 0, 1), 0, "0.1");
        x.setRest(722);
        due(list(x), "r 0 2 -1");
        x.assign(0, 1, 1);
        due(list(x), "r 0 1 -1");
        x.free(0, 0);
        due(list(x), "");
    }

    private static void breaches_rOnTheLastDayAndOverAFreeDay() {
        Rosterproof x = fill(skilled(2, 1439, 720, 0, 1), 1, ".....0.1");
        x.setRest(721);
        due(list(x), "");
        x.setRest(722);
        due(list(x), "r 1 7 -1");
    }

    private static void breaches_rDoesNotReachFromPersonToPerson() {
        Rosterproof x = fill(fill(skilled(2, 1439, 720, 0, 1), 0, ".......0"), 1, "1.......");
        x.setRest(2000);
        due(list(x), "");
    }

    // "'n' ..: the person has a night shift for the day and for each one of the days directly before it, as many as
    // the nights are."

    /** Person 0 has these shifts, 0 by day and 1 and 2 by night; with these nights there are these breaches. */
    private static void nights(String shifts, int nights, String breaches) {
        Rosterproof x = fill(easy(2, 480, 60, 1320, 540, 901, 720), 0, shifts);
        x.setNights(nights);
        due(list(x), breaches);
    }

    private static void breaches_nWithAsManyNightsOneMoreAndOneLess() {
        for (int nights = 1; nights <= 7; nights++) {
            nights("11111111".substring(0, nights), nights, "");
            nights("11111111".substring(0, nights - 1), nights, "");
            nights("11111111".substring(0, nights + 1), nights, "n 0 " + nights + " -1");
        }
    }

    private static void breaches_nWithEightNightsAtMostNone() {
        nights("11111111", 8, "");
        nights("11111111", 7, "n 0 7 -1");
    }

    private static void breaches_nForRowsThatReachDay0OrDay7() {
        nights("111.....", 2, "n 0 2 -1");
        nights(".....111", 2, "n 0 7 -1");
        nights(".....111", 1, "n 0 6 -1, n 0 7 -1");
        nights("......11", 2, "");
        nights("11......", 2, "");
    }

    private static void breaches_nForRowsThatDoNotGoRound() {
        nights("1......1", 1, "");
        nights("11....11", 2, "");
        nights("11....11", 3, "");
    }

    private static void breaches_nForRowsBrokenByAFreeDayOrADayShift() {
        nights("11.11.11", 2, "");
        nights("11011011", 2, "");
        nights("110111.1", 2, "n 0 5 -1");
    }

    private static void breaches_nForTwoNightShiftsInOneRow() {
        nights("1212....", 3, "n 0 3 -1");
        nights("..222222", 5, "n 0 7 -1");
    }

    private static void breaches_nDoesNotReachFromPersonToPerson() {
        Rosterproof x = fill(fill(easy(2, 1320, 540), 0, "......00"), 1, "00......");
        x.setNights(2);
        due(list(x), "");
        x.setNights(1);
        due(list(x), "n 0 7 -1, n 1 1 -1");
    }

    // "'w' ..: the person has a shift for the day and for each one of the days directly before it, as many as the run
    // is."

    private static void run(String shifts, int run, String breaches) {
        Rosterproof x = fill(easy(2, 480, 60, 1320, 540), 0, shifts);
        x.setRun(run);
        due(list(x), breaches);
    }

    private static void breaches_wWithAsManyDaysOneMoreAndOneLess() {
        for (int run = 1; run <= 7; run++) {
            run("01010101".substring(0, run), run, "");
            run("01010101".substring(0, run - 1), run, "");
            run("01010101".substring(0, run + 1), run, "w 0 " + run + " -1");
        }
    }

    private static void breaches_wWithEightDaysAtMostNone() {
        run("01010101", 8, "");
        run("01010101", 7, "w 0 7 -1");
    }

    private static void breaches_wForRowsThatReachDay0OrDay7() {
        run("000.....", 2, "w 0 2 -1");
        run(".....000", 2, "w 0 7 -1");
        run(".....000", 1, "w 0 6 -1, w 0 7 -1");
        run("......00", 2, "");
        run("00......", 2, "");
    }

    private static void breaches_wForRowsThatDoNotGoRound() {
        run("0......0", 1, "");
        run("00....00", 2, "");
        run("00....00", 3, "");
    }

    private static void breaches_wForRowsBrokenByAFreeDay() {
        run("00.00.00", 2, "");
        run("00.000.0", 2, "w 0 5 -1");
    }

    private static void breaches_wDoesNotReachFromPersonToPerson() {
        Rosterproof x = fill(fill(easy(2, 480, 60), 0, "......00"), 1, "00......");
        x.setRun(2);
        due(list(x), "");
        x.setRun(1);
        due(list(x), "w 0 7 -1, w 1 1 -1");
    }

    // "'h' ..: the span of days that begins with the day ends with day 7 or earlier, and the sum .. is greater than
    // the limit."

    private static void hours(String shifts, int span, int limit, String breaches) {
        Rosterproof x = fill(easy(2, 0, 1, 0, 100, 720, 720), 0, shifts);
        x.setHours(span, limit);
        due(list(x), breaches);
    }

    private static void breaches_hWithTheLimitOneMoreAndOneLess() {
        hours("11......", 2, 199, "h 0 0 -1");
        hours("11......", 2, 200, "");
        hours("11......", 2, 201, "");
        hours("22222222", 8, 5759, "h 0 0 -1");
        hours("22222222", 8, 5760, "");
    }

    private static void breaches_hWithTheLimit0() {
        hours("........", 1, 0, "");
        hours("........", 8, 0, "");
        hours("0.......", 1, 0, "h 0 0 -1");
        hours(".......0", 1, 0, "h 0 7 -1");
        hours(".......0", 8, 0, "h 0 0 -1");
    }

    private static void breaches_hWithTheLimit6000() {
        hours("22222222", 8, 6000, "");
        hours("22222222", 1, 6000, "");
    }

    private static void breaches_hForTheLastSpan() {
        hours(".....000", 3, 2, "h 0 5 -1");
        hours("......00", 3, 1, "h 0 5 -1");
        hours("......00", 2, 1, "h 0 6 -1");
        hours(".......2", 2, 719, "h 0 6 -1");
        hours(".......2", 1, 719, "h 0 7 -1");
    }

    private static void breaches_hForEachSpanOfEachLength() {
        for (int span = 1; span <= 8; span++) {
            StringBuilder breaches = new StringBuilder();
            for (int day = 0; day + span <= 8; day++) {
                breaches.append(day == 0 ? "" : ", ").append("h 0 ").append(day).append(" -1");
            }
            hours("00000000", span, span - 1, breaches.toString());
            hours("00000000", span, span, "");
        }
    }

    private static void breaches_hForTheDaysOfTheSpanAlone() {
        hours("20000002", 7, 725, "h 0 0 -1, h 0 1 -1");
        hours("20000002", 7, 726, "");
        hours("2......2", 7, 720, "");
        hours("2......2", 8, 720, "h 0 0 -1");
    }

    private static void breaches_hCountsAShiftThatEndsOnTheNextDayForItsOwnDay() {
        Rosterproof x = fill(easy(1, 1439, 720), 0, ".0......");
        x.setHours(1, 0);
        due(list(x), "h 0 1 -1");
        x.setHours(1, 719);
        due(list(x), "h 0 1 -1");
        x.setHours(2, 719);
        due(list(x), "h 0 0 -1, h 0 1 -1");
    }

    private static void breaches_hDoesNotReachFromPersonToPerson() {
        Rosterproof x = fill(fill(easy(2, 0, 100), 0, ".......0"), 1, "0.......");
        x.setHours(2, 100);
        due(list(x), "");
    }

    // "'d' for a day and a shift: fewer persons have the shift for the day than the demand is."

    private static void breaches_dWithTheDemandOneMoreAndOneLess() {
        for (int demand = 1; demand <= 4; demand++) {
            for (int persons = 0; persons <= 4; persons++) {
                Rosterproof x = easy(4, 0, 1);
                x.setDemand(7, 0, demand);
                for (int person = 0; person < persons; person++) {
                    x.assign(3 - person, 7, 0);
                }
                due(list(x), persons < demand ? "d -1 7 0" : "");
            }
        }
    }

    private static void breaches_dWithTheDemand0() {
        due(list(fill(easy(4, 0, 1, 0, 2), 3, "00000000")), "");
    }

    private static void breaches_dForAllFourPersons() {
        Rosterproof x = easy(4, 0, 1);
        x.setDemand(0, 0, 4);
        for (int person = 0; person < 4; person++) {
            due(list(x), "d -1 0 0");
            x.assign(person, 0, 0);
        }
        due(list(x), "");
        x.free(2, 0);
        due(list(x), "d -1 0 0");
    }

    private static void breaches_dForAnotherShiftOrDayDoesNotCount() {
        Rosterproof x = easy(2, 0, 1, 100, 1, 200, 1);
        x.setDemand(4, 1, 1);
        fill(x, 0, "11110111");
        fill(x, 1, "....2...");
        due(list(x), "d -1 4 1");
        x.assign(1, 4, 1);
        due(list(x), "");
    }

    private static void breaches_dForPersonsAbsentOrWithoutTheSkill() {
        Rosterproof x = skilled(2);
        x.addShift(0, 60);
        x.assign(0, 3, 0);
        x.assign(1, 3, 0);
        x.setAbsent(1, 3, true);
        x.setDemand(3, 0, 2);
        due(list(x), "a 1 3 -1, k 0 3 -1, k 1 3 -1");
        x.setDemand(3, 0, 3);
        due(list(x), "a 1 3 -1, k 0 3 -1, k 1 3 -1, d -1 3 0");
    }

    // "The shift of a breach is -1 but for kind 'd'; its person is -1 for kind 'd'."

    private static void breaches_shiftAndPersonThatAreNone() {
        Rosterproof x = full();
        for (int index = 0; index < 196; index++) {
            due(x.breachShift(index) == -1, index < 180);
            due(x.breachPerson(index) == -1, index >= 180);
        }
    }

    // "The breaches are numbered from 0: those of kind 'a' first, then 'k', 'r', 'n', 'w', 'h' and 'd'; of one kind by
    // the person, then by the day, then by the shift."

    private static void breaches_numberedByKind() {
        Rosterproof x = skilled(2);
        x.addShift(1439, 720);
        x.setRest(1000);
        x.setNights(1);
        x.setRun(1);
        x.setHours(2, 1000);
        x.setDemand(0, 0, 1);
        fill(x, 1, "......00");
        x.setAbsent(1, 7, true);
        due(list(x), "a 1 7 -1, k 1 6 -1, k 1 7 -1, r 1 7 -1, n 1 7 -1, w 1 7 -1, h 1 6 -1, d -1 0 0");
    }

    private static void breaches_numberedByPersonThenByDay() {
        Rosterproof x = easy(4, 0, 1);
        for (int cell : new int[] {27, 9, 16, 31, 8, 3, 0, 23}) {
            x.assign(cell / 8, cell % 8, 0);
            x.setAbsent(cell / 8, cell % 8, true);
        }
        due(list(x), "a 0 0 -1, a 0 3 -1, a 1 0 -1, a 1 1 -1, a 2 0 -1, a 2 7 -1, a 3 3 -1, a 3 7 -1");
    }

    private static void breaches_numberedByDayThenByShift() {
        Rosterproof x = skilled(0, 0, 1, 0, 1, 0, 1);
        for (int post : new int[] {23, 2, 12, 0, 21, 13, 1}) {
            x.setDemand(post / 3, post % 3, 1);
        }
        due(list(x), "d -1 0 0, d -1 0 1, d -1 0 2, d -1 4 0, d -1 4 1, d -1 7 0, d -1 7 2");
    }

    private static void breaches_ofEveryKindForEveryPersonAndDay() {
        Rosterproof x = full();
        due(x.breaches(), 196);
        // The number of the first breach of each kind and person, and the first day that it is found on.
        int[] first = {0, 32, 64, 92, 120, 148};
        int[] days = {8, 8, 7, 7, 7, 8};
        for (int kind = 0; kind < 6; kind++) {
            for (int person = 0; person < 4; person++) {
                int index = first[kind] + person * days[kind];
                due(x.breachKind(index), "akrnwh".charAt(kind));
                due(x.breachPerson(index), person);
                due(x.breachDay(index), 8 - days[kind]);
                due(x.breachPerson(index + days[kind] - 1), person);
                due(x.breachDay(index + days[kind] - 1), 7);
            }
        }
        due(x.breachKind(180), 'd');
        due(x.breachKind(195), 'd');
        due(thrown(() -> x.breachKind(196)), NO_SUCH);
    }

    // "A roster is lawful if it has no breaches."

    private static void breaches_noneInALawfulRoster() {
        for (Supplier<Rosterproof> maker : List.<Supplier<Rosterproof>>of(Rosterproof::new, TestBase::pair,
                () -> fill(pair(), 0, "0..1...0"))) {
            due(maker.get().breaches(), 0);
            due(list(maker.get()), "");
            due(thrown(() -> maker.get().breachKind(0)), NO_SUCH);
            due(thrown(() -> maker.get().mostBreaches()), NO_SUCH);
            due(maker.get().mend(), 0);
        }
    }

    // "A change gives a person another shift for a day, or makes it free on a day on which it has a shift."

    private static void changes_toAnotherShift() {
        Rosterproof x = fill(skilled(1, 0, 60, 600, 60, 1200, 60), 0, "...1....");
        x.setDemand(3, 2, 1);
        due(x.mend(), 1);
        due(changes(x), "3=3");
        due(x.shiftOf(0, 3), 2);
    }

    private static void changes_fromFreeToAShift() {
        Rosterproof x = skilled(1, 0, 60);
        x.setDemand(7, 0, 1);
        due(x.mend(), 1);
        due(changes(x), "7=1");
        due(x.shiftOf(0, 7), 0);
    }

    private static void changes_fromAShiftToFree() {
        Rosterproof x = fill(skilled(1, 0, 60), 0, "0.......");
        x.setAbsent(0, 0, true);
        due(x.mend(), 1);
        due(changes(x), "0=0");
        due(x.shiftOf(0, 0), -1);
    }

    // "A set of changes has at most one change for a person and a day."

    private static void changes_atMostOneForAPersonAndADay() {
        // One person cannot have two shifts for one day, and there is no other who could.
        least(() -> {
            Rosterproof x = skilled(1, 0, 60, 600, 60);
            x.setDemand(5, 0, 1);
            x.setDemand(5, 1, 1);
            return x;
        }, -1, "");
        least(() -> {
            Rosterproof x = skilled(2, 0, 60, 600, 60);
            x.setDemand(5, 0, 1);
            x.setDemand(5, 1, 1);
            return x;
        }, 2, "5=1 13=2");
    }

    // "A set mends the roster if the roster is lawful with all its changes."

    private static void changes_lawfulWithAllChangesNotWithTheFirst() {
        // Two nights in a row are one too many: the first change brings this breach, and the second takes it away.
        least(() -> {
            Rosterproof x = fill(easy(1, 480, 480, 1320, 540), 0, "01......");
            x.setNights(1);
            x.setDemand(0, 1, 1);
            return x;
        }, 2, "0=2 1=0");
    }

    private static void changes_lawfulWithAllChangesNotWithTheSecond() {
        least(() -> {
            Rosterproof x = fill(easy(1, 480, 480, 1320, 540), 0, "10......");
            x.setNights(1);
            x.setDemand(1, 1, 1);
            return x;
        }, 2, "0=0 1=2");
    }

    // "The cell of a person and a day is 8 times the person plus the day."

    private static void changes_cellIs8TimesThePersonPlusTheDay() {
        for (int cell = 0; cell < 32; cell++) {
            Rosterproof x = easy(4, 0, 1);
            x.assign(cell / 8, cell % 8, 0);
            x.setAbsent(cell / 8, cell % 8, true);
            due(x.mend(), 1);
            due(x.changedCell(0), 8 * (cell / 8) + cell % 8);
            due(x.changedValue(0), 0);
        }
    }

    // "The value of a change is the number of the shift plus 1, or 0 if the person becomes free."

    private static void changes_valueIsTheShiftPlus1() {
        for (int shift = 0; shift < 3; shift++) {
            Rosterproof x = easy(4, 0, 1, 10, 1, 20, 1);
            x.setDemand(7, shift, 4);
            x.assign(0, 7, shift);
            x.assign(1, 7, shift);
            x.assign(2, 7, shift);
            due(x.mend(), 1);
            due(x.changedCell(0), 31);
            due(x.changedValue(0), shift + 1);
            due(x.shiftOf(3, 7), shift);
        }
    }

    // "The least set is the one with the fewest changes that mends the roster"

    private static void changes_fewestBeforeLowerCells() {
        // Freeing days 0 and 4 would do, but so does freeing day 3 alone.
        least(() -> running("0000000.", 3), 1, "3=0");
        least(() -> running("00000000", 3), 2, "0=0 4=0");
    }

    private static Rosterproof running(String shifts, int run) {
        Rosterproof x = fill(easy(1, 0, 60), 0, shifts);
        x.setRun(run);
        return x;
    }

    private static void changes_noneIfTheRosterIsLawful() {
        least(Rosterproof::new, 0, "");
        least(TestBase::pair, 0, "");
        least(() -> running("00000000", 8), 0, "");
    }

    // "of several, their changes are compared in the order of their cells: at the first place at which they differ,
    // the one with the lower cell there comes first, and with the same cell the one with the lower value."

    private static void changes_lowerCellFirst() {
        least(() -> running(".0000...", 3), 1, "1=0");
        least(() -> demanding(1), 1, "2=1");
        least(() -> demanding(2), 2, "2=1 10=1");
    }

    private static void changes_lowerCellFirstAtTheSecondPlace() {
        least(() -> {
            Rosterproof x = demanding(2);
            x.setAbsent(1, 2, true);
            return x;
        }, 2, "2=1 18=1");
        least(() -> {
            Rosterproof x = running("0000.000", 3);
            x.setRun(2);
            return x;
        }, 2, "1=0 5=0");
    }

    private static void changes_lowerValueFirst() {
        // Free, and the other shift, would both do.
        least(() -> {
            Rosterproof x = skilled(1);
            x.addShift(0, 60);
            x.addShift(600, 60);
            x.teach(0, 0);
            return fill(x, 0, ".1");
        }, 1, "1=0");
        // Shifts 1 and 2 would both give the rest, free would not meet the demand.
        least(() -> {
            Rosterproof x = fill(easy(2, 0, 60, 100, 60, 200, 60), 0, "0");
            x.assign(1, 0, 0);
            x.setDemand(0, 0, 1);
            x.setDemand(0, 1, 1);
            return x;
        }, 1, "0=2");
    }

    private static void changes_lowerValueFirstAtTheSecondPlace() {
        least(() -> {
            Rosterproof x = skilled(2);
            x.addShift(0, 60);
            x.addShift(600, 60);
            x.teach(0, 1);
            x.teach(1, 1);
            return fill(fill(x, 0, "0"), 1, "...0");
        }, 2, "0=0 11=0");
    }

    private static void changes_firstPlaceBeforeTheSecond() {
        // The value 1 for cell 0 goes with cell 16, the value 2 with the lower cell 8.
        least(() -> {
            Rosterproof x = skilled(3);
            x.addShift(0, 60);
            x.addShift(600, 60);
            x.teach(0, 0);
            x.teach(0, 1);
            x.teach(1, 0);
            x.teach(2, 1);
            x.setDemand(0, 0, 1);
            x.setDemand(0, 1, 1);
            return x;
        }, 2, "0=1 16=2");
    }

    // "Only sets of at most 2 changes are looked at."

    private static void changes_atMostTwo() {
        least(() -> unskilled("0......0"), 2, "24=0 31=0");
        least(() -> unskilled("0..0...0"), -1, "");
        least(() -> demanding(2), 2, "2=1 10=1");
        least(() -> demanding(3), -1, "");
        least(TestBase::full, -1, "");
    }

    private static void changes_ofTheLastCells() {
        least(() -> unskilled("......00"), 2, "30=0 31=0");
        least(() -> unskilled(".......0"), 1, "31=0");
    }

    // "If several exceptions apply, the one that is listed first is thrown."

    private static void exceptions_theFirstListedIsThrown() {
        refuses(TestBase::full, ARGUMENT, x -> x.addShift(-1, 1));
        refuses(TestBase::full, ARGUMENT, x -> x.addShift(0, 721));
        refuses(BOUNDS, x -> x.teach(2, 2));
        refuses(BOUNDS, x -> x.setDemand(8, 2, 5));
        refuses(BOUNDS, x -> x.setDemand(8, 2, 4));
        refuses(BOUNDS, x -> x.setDemand(8, 1, 5));
        refuses(NO_SUCH, x -> x.setDemand(7, 2, 5));
        refuses(BOUNDS, x -> x.assign(2, 7, 2));
        refuses(BOUNDS, x -> x.assign(1, 8, 2));
        refuses(BOUNDS, x -> x.free(2, 0));
        refuses(BOUNDS, x -> x.free(0, 8));
        refuses(BOUNDS, x -> x.restBefore(2, 0));
        refuses(BOUNDS, x -> x.restBefore(0, 8));
        refuses(BOUNDS, x -> x.swap(2, 2, 0));
        refuses(BOUNDS, x -> x.swap(1, 1, 8));
        refuses(BOUNDS, x -> x.swap(2, 0, 8));
        refuses(BOUNDS, x -> x.partner(2, 0));
        refuses(BOUNDS, x -> x.partner(0, 8));
        refuses(BOUNDS, x -> x.meanRest(2));
    }

    // "A method that throws an exception changes nothing."

    private static List<Consumer<Rosterproof>> refusedCallsWith(int number) {
        int aboveAll = number == 9 ? 6001 : number;
        return List.of(x -> x.addShift(aboveAll, 1), x -> x.addShift(0, aboveAll), x -> x.isNight(number),
                x -> x.teach(number, 0), x -> x.teach(0, number), x -> x.setRest(aboveAll),
                x -> x.setNights(number), x -> x.setRun(number), x -> x.setHours(number, 0),
                x -> x.setHours(1, aboveAll), x -> x.setDemand(number, 0, 1), x -> x.setDemand(0, number, 1),
                x -> x.setDemand(0, 0, number), x -> x.assign(number, 0, 0), x -> x.assign(0, number, 0),
                x -> x.assign(0, 0, number), x -> x.free(number, 0), x -> x.free(0, number),
                x -> x.setAbsent(number, 0, true), x -> x.setAbsent(0, number, true), x -> x.swap(number, 0, 0),
                x -> x.swap(0, number, 0), x -> x.swap(0, 1, number), x -> x.partner(number, 0),
                x -> x.breachKind(number), x -> x.changedCell(number));
    }

    private static List<Consumer<Rosterproof>> refusedCalls() {
        return List.of(x -> x.free(0, 0), x -> x.swap(1, 1, 0), x -> x.swap(0, 1, 6), x -> x.partner(0, 0),
                x -> x.restBefore(0, 1), x -> x.meanRest(0), Rosterproof::leastChanges, Rosterproof::leastByTrial,
                Rosterproof::mend);
    }

    private static void exceptions_manyRefusedCallsOnOneObject() {
        Rosterproof called = busy();
        for (int number : new int[] {-1, 9, MIN, MAX}) {
            for (Consumer<Rosterproof> call : refusedCallsWith(number)) {
                due(thrown(() -> call.accept(called)).equals(NOTHING), false);
            }
        }
        for (Consumer<Rosterproof> call : refusedCalls()) {
            due(thrown(() -> call.accept(called)).equals(NOTHING), false);
        }
        due(everything(called), everything(busy()));
    }

    public static void main(String[] args) {
        runAll(TermsTest.class);
    }
}
