import java.util.List;
import java.util.function.Supplier;

/** Each promise of the document by examples worked out by hand; the method pN tests promise N. */
public final class PromiseTest extends TestBase {
    private static void p1() {
        Rosterproof x = new Rosterproof();
        due(x.breaches(), 0);
        due(x.minutes(), 0L);
        due(x.leastChanges(), 0);
        due(x.leastByTrial(), 0);
        due(x.mend(), 0);
        due(x.isSound(), true);
        due(thrown(() -> x.shiftOf(0, 0)), BOUNDS);
        due(thrown(() -> x.isNight(0)), NO_SUCH);
        due(x.setRest(0), 660);
        due(x.setNights(1), 3);
        due(x.setRun(1), 6);
        due(x.setHours(1, 0), 2880);
        due(x.addPerson(), 0);
        due(x.addShift(0, 1), 0);
        due(x.setDemand(7, 0, 4), 0);
    }

    private static void p1span() {
        due(fill(skilled(1, 0, 1), 0, "00000000").peak(0), 7);
    }

    private static void p2() {
        Rosterproof x = new Rosterproof();
        for (int person = 0; person < 4; person++) {
            int number = person;
            due(thrown(() -> x.workShare(number)), BOUNDS);
            due(x.addPerson(), person);
            due(x.workShare(person), 0.0f);
        }
        due(thrown(x::addPerson), STATE);
        due(thrown(() -> x.workShare(4)), BOUNDS);
        x.addShift(480, 480);
        x.setRun(8);
        x.setHours(8, 6000);
        for (int day = 0; day < 8; day++) {
            due(x.shiftOf(3, day), -1);
            due(x.setAbsent(3, day, false), false);
            x.assign(3, day, 0);
        }
        due(list(x), "k 3 0 -1, k 3 1 -1, k 3 2 -1, k 3 3 -1, k 3 4 -1, k 3 5 -1, k 3 6 -1, k 3 7 -1");
        refuses(PromiseTest::full, STATE, Rosterproof::addPerson);
    }

    private static void p3() {
        Rosterproof x = new Rosterproof();
        due(x.addShift(0, 1), 0);
        due(x.addShift(1439, 720), 1);
        due(x.addShift(0, 720), 2);
        due(thrown(() -> x.addShift(0, 1)), STATE);
        due(thrown(() -> x.isNight(3)), NO_SUCH);
        int[][] strange = {{-1, 1}, {1440, 1}, {0, 0}, {0, 721}, {0, -1}, {MIN, 1}, {MAX, 1}, {0, MIN}, {0, MAX}};
        for (int[] shift : strange) {
            refuses(Rosterproof::new, ARGUMENT, y -> y.addShift(shift[0], shift[1]));
            refuses(PromiseTest::full, ARGUMENT, y -> y.addShift(shift[0], shift[1]));
        }
        refuses(PromiseTest::full, STATE, y -> y.addShift(0, 1));
        x.addPerson();
        due(fill(x, 0, "012").minutes(), 1441L);
    }

    private static void p4() {
        int[][] shifts = {{900, 720}, {901, 720}, {1439, 181}, {1439, 182}, {1320, 540}, {0, 720}, {480, 480},
            {1439, 1}, {1439, 720}, {1080, 540}, {1080, 541}};
        boolean[] nights = {false, true, false, true, true, false, false, false, true, false, true};
        for (int i = 0; i < shifts.length; i++) {
            Rosterproof x = new Rosterproof();
            x.addShift(480, 480);
            x.addShift(shifts[i][0], shifts[i][1]);
            due(x.isNight(1), nights[i]);
            due(x.isNight(0), false);
        }
        for (int shift : new int[] {-1, 2, MIN, MAX}) {
            refuses(PromiseTest::busy, NO_SUCH, y -> y.isNight(shift));
        }
    }

    private static void p5() {
        Rosterproof x = skilled(2);
        x.addShift(480, 480);
        x.addShift(960, 480);
        due(x.teach(1, 0), true);
        due(x.teach(1, 0), false);
        due(x.teach(1, 1), true);
        due(x.teach(0, 1), true);
        x.assign(0, 0, 0);
        x.assign(0, 2, 1);
        x.assign(1, 0, 0);
        x.assign(1, 2, 1);
        due(list(x), "k 0 0 -1");
        for (int person : new int[] {-1, 2, MIN, MAX}) {
            refuses(PromiseTest::busy, BOUNDS, y -> y.teach(person, 0));
            refuses(PromiseTest::busy, BOUNDS, y -> y.teach(person, 9));
        }
        for (int shift : new int[] {-1, 2, MIN, MAX}) {
            refuses(PromiseTest::busy, NO_SUCH, y -> y.teach(1, shift));
        }
    }

    private static void p6() {
        Rosterproof x = pair();
        due(x.setRest(0), 660);
        due(x.setRest(2000), 0);
        due(x.setRest(61), 2000);
        fill(x, 0, "10");
        due(list(x), "r 0 1 -1");
        due(x.setRest(60), 61);
        due(list(x), "");
        for (int rest : new int[] {-1, 2001, MIN, MAX}) {
            refuses(PromiseTest::busy, ARGUMENT, y -> y.setRest(rest));
        }
    }

    private static void p7() {
        Rosterproof x = fill(pair(), 1, "11111111");
        x.setRun(8);
        x.setHours(1, 6000);
        due(x.setNights(1), 3);
        due(x.breaches(), 7);
        due(x.setNights(7), 1);
        due(list(x), "n 1 7 -1");
        due(x.setNights(8), 7);
        due(list(x), "");
        for (int nights : new int[] {0, 9, -1, MIN, MAX}) {
            refuses(PromiseTest::busy, ARGUMENT, y -> y.setNights(nights));
        }
    }

    private static void p8() {
        Rosterproof x = fill(pair(), 1, "00000000");
        x.setHours(1, 6000);
        due(list(x), "w 1 6 -1, w 1 7 -1");
        due(x.setRun(1), 6);
        due(x.breaches(), 7);
        due(x.setRun(7), 1);
        due(list(x), "w 1 7 -1");
        due(x.setRun(8), 7);
        due(list(x), "");
        for (int run : new int[] {0, 9, -1, MIN, MAX}) {
            refuses(PromiseTest::busy, ARGUMENT, y -> y.setRun(run));
        }
    }

    private static void p9() {
        Rosterproof x = fill(pair(), 0, "00.0...0");
        due(x.setHours(1, 479), 2880);
        due(list(x), "h 0 0 -1, h 0 1 -1, h 0 3 -1, h 0 7 -1");
        due(x.setHours(1, 480), 479);
        due(list(x), "");
        due(x.setHours(4, 1439), 480);
        due(list(x), "h 0 0 -1");
        due(x.setHours(8, 1919), 1439);
        due(list(x), "h 0 0 -1");
        due(x.setHours(8, 1920), 1919);
        due(list(x), "");
        due(x.setHours(8, 6000), 1920);
        due(x.setHours(8, 0), 6000);
        due(x.peak(0), 1920);
        int[][] strange = {{0, 0}, {9, 0}, {MIN, 0}, {MAX, 0}, {1, -1}, {1, 6001}, {1, MIN}, {1, MAX}, {0, 6001}};
        for (int[] hours : strange) {
            refuses(PromiseTest::busy, ARGUMENT, y -> y.setHours(hours[0], hours[1]));
        }
    }

    private static void p10() {
        Rosterproof x = pair();
        due(x.setDemand(0, 0, 4), 0);
        due(x.setDemand(0, 0, 1), 4);
        due(x.setDemand(7, 1, 2), 0);
        due(x.setDemand(7, 1, 2), 2);
        due(list(x), "d -1 0 0, d -1 7 1");
        x.assign(1, 0, 0);
        x.assign(1, 7, 1);
        due(list(x), "d -1 7 1");
        x.setDemand(7, 1, 0);
        due(list(x), "");
        for (int strange : new int[] {-1, 8, MIN, MAX}) {
            refuses(PromiseTest::busy, BOUNDS, y -> y.setDemand(strange, 0, 0));
            refuses(PromiseTest::busy, BOUNDS, y -> y.setDemand(strange, 9, 9));
            refuses(PromiseTest::busy, NO_SUCH, y -> y.setDemand(0, strange, 0));
            refuses(PromiseTest::busy, NO_SUCH, y -> y.setDemand(0, strange, 5));
            refuses(PromiseTest::busy, ARGUMENT, y -> y.setDemand(7, 1, strange));
        }
        refuses(PromiseTest::busy, NO_SUCH, y -> y.setDemand(0, 2, 0));
        refuses(PromiseTest::busy, ARGUMENT, y -> y.setDemand(0, 0, 5));
    }

    private static void p11() {
        Rosterproof x = pair();
        due(x.assign(1, 7, 1), -1);
        due(x.assign(1, 7, 0), 1);
        due(x.assign(1, 7, 0), 0);
        due(x.shiftOf(1, 7), 0);
        due(x.assign(0, 0, 1), -1);
        due(x.assign(0, 1, 0), -1);
        due(list(x), "r 0 1 -1");
        due(x.minutes(), 1500L);
        for (int strange : new int[] {-1, 8, MIN, MAX}) {
            refuses(PromiseTest::busy, BOUNDS, y -> y.assign(strange, 0, 0));
            refuses(PromiseTest::busy, BOUNDS, y -> y.assign(strange, 0, 9));
            refuses(PromiseTest::busy, BOUNDS, y -> y.assign(0, strange, 0));
            refuses(PromiseTest::busy, BOUNDS, y -> y.assign(0, strange, 9));
            refuses(PromiseTest::busy, NO_SUCH, y -> y.assign(0, 0, strange));
        }
        refuses(PromiseTest::busy, BOUNDS, y -> y.assign(2, 0, 0));
        refuses(PromiseTest::busy, NO_SUCH, y -> y.assign(1, 7, 2));
    }

    private static void p12() {
        Rosterproof x = fill(pair(), 1, "1......0");
        x.setDemand(0, 1, 1);
        due(x.free(1, 0), 1);
        due(x.free(1, 7), 0);
        due(x.shiftOf(1, 0), -1);
        due(x.shiftOf(1, 7), -1);
        due(list(x), "d -1 0 1");
        due(thrown(() -> x.free(1, 7)), STATE);
        for (int strange : new int[] {-1, 8, MIN, MAX}) {
            refuses(PromiseTest::busy, BOUNDS, y -> y.free(strange, 0));
            refuses(PromiseTest::busy, BOUNDS, y -> y.free(0, strange));
        }
        refuses(PromiseTest::busy, BOUNDS, y -> y.free(2, 0));
        refuses(PromiseTest::busy, STATE, y -> y.free(1, 0));
    }

    private static void p13() {
        Rosterproof x = fill(pair(), 1, ".0.....0");
        due(x.setAbsent(1, 7, true), false);
        due(x.setAbsent(1, 7, true), true);
        due(x.setAbsent(1, 0, true), false);
        due(x.setAbsent(0, 1, true), false);
        due(list(x), "a 1 7 -1");
        due(x.setAbsent(1, 7, false), true);
        due(x.setAbsent(1, 7, false), false);
        due(list(x), "");
        for (int strange : new int[] {-1, 8, MIN, MAX}) {
            refuses(PromiseTest::busy, BOUNDS, y -> y.setAbsent(strange, 0, true));
            refuses(PromiseTest::busy, BOUNDS, y -> y.setAbsent(0, strange, true));
        }
        refuses(PromiseTest::busy, BOUNDS, y -> y.setAbsent(2, 0, true));
    }

    private static void p14() {
        Rosterproof x = fill(fill(pair(), 0, "0......1"), 1, "1.......");
        due(x.shiftOf(0, 0), 0);
        due(x.shiftOf(0, 7), 1);
        due(x.shiftOf(1, 0), 1);
        due(x.shiftOf(1, 7), -1);
        for (int strange : new int[] {-1, 8, MIN, MAX}) {
            refuses(PromiseTest::busy, BOUNDS, y -> y.shiftOf(strange, 0));
            refuses(PromiseTest::busy, BOUNDS, y -> y.shiftOf(0, strange));
        }
        refuses(PromiseTest::busy, BOUNDS, y -> y.shiftOf(2, 0));
    }

    private static void p15() {
        Rosterproof x = fill(skilled(1, 480, 480, 1320, 540), 0, "10.0...1");
        due(x.restBefore(0, 1), 60);
        due(x.restBefore(0, 3), 2400);
        due(x.restBefore(0, 7), 4 * 1440 + 1320 - 960);
        due(thrown(() -> x.restBefore(0, 0)), NO_SUCH);
        due(thrown(() -> x.restBefore(0, 2)), NO_SUCH);
        Rosterproof late = fill(skilled(2, 1439, 720, 0, 1), 1, "01.0.1");
        due(late.restBefore(1, 1), -719);
        due(late.restBefore(1, 3), 2 * 1440 + 1438);
        due(late.restBefore(1, 5), 721);
        for (int strange : new int[] {-1, 8, MIN, MAX}) {
            refuses(PromiseTest::busy, BOUNDS, y -> y.restBefore(strange, 0));
            refuses(PromiseTest::busy, BOUNDS, y -> y.restBefore(0, strange));
        }
        refuses(PromiseTest::busy, BOUNDS, y -> y.restBefore(2, 0));
        refuses(PromiseTest::busy, NO_SUCH, y -> y.restBefore(1, 6));
        refuses(PromiseTest::busy, NO_SUCH, y -> y.restBefore(1, 0));
    }

    private static void longest(String shifts, int want) {
        Rosterproof x = fill(skilled(2, 480, 480, 1320, 540, 901, 720), 1, shifts);
        due(x.longestNights(1), want);
        due(x.longestByRows(1), want);
        due(x.longestNights(0), 0);
        due(x.longestByRows(0), 0);
    }

    private static void p16() {
        longest("", 0);
        longest("00000000", 0);
        longest("1", 1);
        longest(".......1", 1);
        longest("11111111", 8);
        longest("12121212", 8);
        longest("110111.1", 3);
        longest("1.11.111", 3);
        longest("1111.111", 4);
        longest("1101.011", 2);
        for (int person : new int[] {-1, 2, MIN, MAX}) {
            refuses(PromiseTest::busy, BOUNDS, y -> y.longestNights(person));
        }
    }

    private static void p17() {
        longest("2", 1);
        longest("0222222.", 6);
        longest(".0.2.22.", 2);
        for (int person : new int[] {-1, 2, MIN, MAX}) {
            refuses(PromiseTest::busy, BOUNDS, y -> y.longestByRows(person));
        }
    }

    private static void most(String shifts, int span, int want) {
        Rosterproof x = fill(skilled(2, 0, 1, 0, 100, 0, 720), 1, shifts);
        x.setHours(span, 0);
        due(x.peak(1), want);
        due(x.peakByAdding(1), want);
        due(x.peak(0), 0);
        due(x.peakByAdding(0), 0);
    }

    private static void p18() {
        most("", 1, 0);
        most("22222222", 8, 5760);
        most("22222222", 7, 5040);
        most("22222222", 1, 720);
        most("2......2", 7, 720);
        most("2......2", 8, 1440);
        most("010.1012", 3, 821);
        most("2101....", 2, 820);
        most(".......1", 3, 100);
        most("1.......", 3, 100);
        for (int person : new int[] {-1, 2, MIN, MAX}) {
            refuses(PromiseTest::busy, BOUNDS, y -> y.peak(person));
        }
    }

    private static void p19() {
        most("1.1.1.1.", 4, 200);
        most("1.1.1.1.", 5, 300);
        most("0......2", 1, 720);
        for (int person : new int[] {-1, 2, MIN, MAX}) {
            refuses(PromiseTest::busy, BOUNDS, y -> y.peakByAdding(person));
        }
    }

    private static void p20() {
        due(full().breaches(), 32 + 32 + 28 + 28 + 28 + 32 + 16);
        due(busy().breaches(), 3);
        due(list(busy()), "a 1 7 -1, r 1 7 -1, d -1 3 1");
        Rosterproof x = fill(skilled(1, 1439, 720, 0, 1), 0, "0.1");
        x.setRest(721);
        due(list(x), "");
        x.setRest(722);
        due(list(x), "r 0 2 -1");
        x.setRest(0);
        due(list(x), "");
        x.assign(0, 1, 1);
        due(list(x), "r 0 1 -1");
    }

    private static void p20rows() {
        Rosterproof x = fill(pair(), 0, "1111.111");
        x.setHours(8, 6000);
        due(list(x), "n 0 3 -1");
        x.setNights(2);
        due(list(x), "n 0 2 -1, n 0 3 -1, n 0 7 -1");
        x.setNights(1);
        x.setRun(3);
        due(list(x), "n 0 1 -1, n 0 2 -1, n 0 3 -1, n 0 6 -1, n 0 7 -1, w 0 3 -1");
        x.setHours(3, 1619);
        x.setNights(8);
        due(list(x), "w 0 3 -1, h 0 0 -1, h 0 1 -1, h 0 5 -1");
        x.setDemand(3, 1, 1);
        x.setDemand(2, 1, 2);
        x.setDemand(2, 0, 1);
        x.setRun(8);
        x.setHours(4, 6000);
        due(list(x), "d -1 2 0, d -1 2 1");
    }

    private static void p21() {
        Rosterproof x = full();
        int[] first = {0, 32, 64, 92, 120, 148, 180, 196};
        for (int kind = 0; kind < 7; kind++) {
            due(x.breachKind(first[kind]), "akrnwhd".charAt(kind));
            due(x.breachKind(first[kind + 1] - 1), "akrnwhd".charAt(kind));
        }
        for (int index : new int[] {-1, 196, MIN, MAX}) {
            refuses(PromiseTest::p21small, NO_SUCH, y -> y.breachKind(index));
            due(thrown(() -> x.breachKind(index)), NO_SUCH);
        }
        refuses(Rosterproof::new, NO_SUCH, y -> y.breachKind(0));
    }

    private static Rosterproof p21small() {
        due(busy().breachKind(2), 'd');
        due(thrown(() -> busy().breachKind(3)), NO_SUCH);
        return busy();
    }

    private static void p22() {
        Rosterproof x = full();
        int[][] persons = {{0, 0}, {7, 0}, {8, 1}, {31, 3}, {32, 0}, {64, 0}, {71, 1}, {91, 3}, {119, 3}, {147, 3},
            {155, 0}, {156, 1}, {179, 3}, {180, -1}, {195, -1}};
        for (int[] row : persons) {
            due(x.breachPerson(row[0]), row[1]);
        }
        for (int index : new int[] {-1, 3, MIN, MAX}) {
            refuses(PromiseTest::busy, NO_SUCH, y -> y.breachPerson(index));
        }
        due(thrown(() -> x.breachPerson(196)), NO_SUCH);
    }

    private static void p23() {
        Rosterproof x = full();
        int[][] days = {{0, 0}, {7, 7}, {8, 0}, {31, 7}, {64, 1}, {70, 7}, {71, 1}, {92, 1}, {120, 1}, {148, 0},
            {155, 7}, {179, 7}, {180, 0}, {181, 0}, {182, 1}, {195, 7}};
        for (int[] row : days) {
            due(x.breachDay(row[0]), row[1]);
        }
        for (int index : new int[] {-1, 3, MIN, MAX}) {
            refuses(PromiseTest::busy, NO_SUCH, y -> y.breachDay(index));
        }
        due(thrown(() -> x.breachDay(196)), NO_SUCH);
    }

    private static void p24() {
        Rosterproof x = full();
        int[][] shifts = {{0, -1}, {63, -1}, {64, -1}, {119, -1}, {147, -1}, {179, -1}, {180, 1}, {181, 2}, {182, 1},
            {195, 2}};
        for (int[] row : shifts) {
            due(x.breachShift(row[0]), row[1]);
        }
        for (int index : new int[] {-1, 3, MIN, MAX}) {
            refuses(PromiseTest::busy, NO_SUCH, y -> y.breachShift(index));
        }
        due(thrown(() -> x.breachShift(196)), NO_SUCH);
        x.assign(0, 0, 1);
        x.setDemand(0, 1, 1);
        due(x.breachShift(x.breaches() - 16), 0);
    }

    private static void p25() {
        due(full().mostBreaches(), 0);
        due(busy().mostBreaches(), 1);
        Rosterproof x = skilled(3);
        x.addShift(480, 480);
        x.teach(1, 0);
        x.teach(2, 0);
        x.assign(0, 0, 0);
        due(x.mostBreaches(), 0);
        x.assign(2, 7, 0);
        x.setAbsent(2, 7, true);
        due(list(x), "a 2 7 -1, k 0 0 -1");
        due(x.mostBreaches(), 2);
        x.assign(1, 7, 0);
        x.setAbsent(1, 7, true);
        due(x.mostBreaches(), 1);
        x.assign(0, 2, 0);
        due(x.mostBreaches(), 0);
        refuses(Rosterproof::new, NO_SUCH, Rosterproof::mostBreaches);
        refuses(PromiseTest::p25demands, NO_SUCH, Rosterproof::mostBreaches);
    }

    private static Rosterproof p25demands() {
        Rosterproof x = pair();
        x.setDemand(0, 0, 1);
        x.setDemand(7, 1, 4);
        due(x.breaches(), 2);
        return x;
    }

    private static void p26() {
        Rosterproof x = fill(fill(pair(), 0, "0......1"), 1, "1.......");
        due(x.swap(0, 1, 0), 0);
        due(x.shiftOf(0, 0), 1);
        due(x.shiftOf(1, 0), 0);
        due(x.swap(1, 0, 7), 0);
        due(x.shiftOf(0, 7), -1);
        due(x.shiftOf(1, 7), 1);
        due(x.swap(0, 1, 4), 0);
        x.setDemand(5, 0, 1);
        due(x.swap(0, 1, 7), 1);
        due(x.shiftOf(0, 7), 1);
        for (int strange : new int[] {-1, 8, MIN, MAX}) {
            refuses(PromiseTest::busy, BOUNDS, y -> y.swap(strange, 0, 0));
            refuses(PromiseTest::busy, BOUNDS, y -> y.swap(0, strange, 0));
            refuses(PromiseTest::busy, BOUNDS, y -> y.swap(0, 1, strange));
            refuses(PromiseTest::busy, BOUNDS, y -> y.swap(0, 0, strange));
            refuses(PromiseTest::busy, BOUNDS, y -> y.swap(strange, strange, 0));
        }
        refuses(PromiseTest::busy, BOUNDS, y -> y.swap(2, 0, 0));
        refuses(PromiseTest::busy, BOUNDS, y -> y.swap(0, 2, 0));
        refuses(PromiseTest::busy, ARGUMENT, y -> y.swap(1, 1, 7));
    }

    private static void p26breaches() {
        // The rest of person 0 before day 2 becomes right, and that of person 1 becomes wrong.
        refuses(() -> fill(fill(pair(), 0, ".10"), 1, "..0"), UNSUPPORTED, y -> y.swap(0, 1, 1));
        // The rest of person 0 before day 2 becomes right, and that before day 3 becomes wrong.
        refuses(() -> fill(fill(pair(), 0, ".100"), 1, "..1"), UNSUPPORTED, y -> y.swap(0, 1, 2));
        Rosterproof x = skilled(2);
        x.addShift(0, 60);
        x.addShift(600, 60);
        x.teach(1, 0);
        x.teach(1, 1);
        x.assign(0, 3, 0);
        x.assign(1, 3, 1);
        due(list(x), "k 0 3 -1");
        due(x.swap(0, 1, 3), 1);
        due(list(x), "k 0 3 -1");
        due(x.shiftOf(0, 3), 1);
        x.free(0, 3);
        due(thrown(() -> x.swap(0, 1, 3)), UNSUPPORTED);
        due(x.shiftOf(1, 3), 0);
        x.setAbsent(1, 3, true);
        due(thrown(() -> x.swap(1, 0, 3)), UNSUPPORTED);
        x.teach(0, 0);
        due(x.swap(1, 0, 3), 0);
        due(x.shiftOf(0, 3), 0);
    }

    private static void p27() {
        Rosterproof x = skilled(4);
        x.addShift(0, 60);
        x.teach(2, 0);
        x.teach(3, 0);
        x.assign(0, 3, 0);
        due(x.partner(0, 3), 2);
        due(x.partner(2, 3), 0);
        due(x.partner(3, 3), 0);
        due(thrown(() -> x.partner(1, 3)), NO_SUCH);
        due(x.shiftOf(0, 3), 0);
        due(x.shiftOf(2, 3), -1);
        x.setAbsent(2, 3, true);
        due(x.partner(0, 3), 3);
        x.teach(0, 0);
        due(thrown(() -> x.partner(0, 3)), NO_SUCH);
        for (int strange : new int[] {-1, 8, MIN, MAX}) {
            refuses(PromiseTest::busy, BOUNDS, y -> y.partner(strange, 0));
            refuses(PromiseTest::busy, BOUNDS, y -> y.partner(0, strange));
        }
        refuses(PromiseTest::busy, BOUNDS, y -> y.partner(2, 0));
        refuses(PromiseTest::busy, NO_SUCH, y -> y.partner(0, 0));
        refuses(() -> skilled(1, 0, 1), NO_SUCH, y -> y.partner(0, 0));
    }

    private static void p28() {
        least(Rosterproof::new, 0, "");
        least(() -> fill(pair(), 0, "0..1"), 0, "");
        least(() -> fill(pair(), 0, "10"), 1, "0=0");
        least(() -> fill(pair(), 1, ".10"), 1, "9=0");
        least(PromiseTest::full, -1, "");
        least(() -> unskilled("0......."), 1, "24=0");
        least(() -> unskilled(".......0"), 1, "31=0");
        least(() -> unskilled("0......0"), 2, "24=0 31=0");
        least(() -> unskilled("......00"), 2, "30=0 31=0");
        least(() -> unskilled("0.0....0"), -1, "");
    }

    private static void p29() {
        least(() -> demanding(1), 1, "2=1");
        least(() -> demanding(2), 2, "2=1 10=1");
        least(() -> demanding(3), -1, "");
        least(() -> {
            Rosterproof x = new Rosterproof();
            x.addShift(0, 1);
            x.setDemand(0, 0, 1);
            return x;
        }, -1, "");
    }

    private static void p30() {
        // A person that is absent is passed over, and of two shifts the one that is asked for is given.
        least(() -> {
            Rosterproof x = demanding(1);
            x.setAbsent(0, 2, true);
            x.setDemand(2, 1, 1);
            return x;
        }, 2, "10=1 18=2");
        // Another shift is one change.
        least(() -> {
            Rosterproof x = fill(pair(), 0, "0");
            x.setDemand(0, 1, 1);
            x.setAbsent(1, 0, true);
            return x;
        }, 1, "0=2");
        // Fewer changes come before lower cells.
        least(() -> {
            Rosterproof x = demanding(1);
            x.setAbsent(0, 2, true);
            return x;
        }, 1, "10=1");
        // The first change may bring a breach that the second one takes away: a third night.
        least(() -> {
            Rosterproof x = fill(fill(pair(), 0, "011"), 1, "0");
            x.setDemand(0, 0, 1);
            x.setDemand(0, 1, 1);
            x.setNights(1);
            return x;
        }, 2, "0=2 1=0");
        // The value at the first place goes before all at the second one.
        least(() -> {
            Rosterproof x = skilled(2);
            x.addShift(0, 60);
            x.addShift(600, 60);
            x.teach(0, 1);
            x.teach(1, 1);
            x.setDemand(0, 1, 1);
            return fill(fill(x, 0, "0"), 1, "0");
        }, 2, "0=0 8=2");
    }

    private static void p30rows() {
        // One free day in the middle parts both rows; the lowest cell that does it is taken.
        least(() -> fill(pair(), 0, "1111...."), 1, "0=0");
        least(() -> fill(pair(), 0, "11111..."), 1, "1=0");
        least(() -> fill(pair(), 1, "0000000."), 1, "8=0");
        least(() -> {
            Rosterproof x = fill(pair(), 0, "00000000");
            x.setRun(3);
            x.setHours(8, 6000);
            return x;
        }, 2, "0=0 4=0");
        least(() -> {
            Rosterproof x = fill(pair(), 0, "00000000");
            x.setRun(8);
            x.setHours(8, 3359);
            return x;
        }, 2, "0=0 1=0");
        least(() -> {
            Rosterproof x = fill(pair(), 0, "00000000");
            x.setRun(8);
            x.setHours(8, 2879);
            return x;
        }, -1, "");
    }

    private static void p31() {
        Rosterproof x = unskilled("0......0");
        due(thrown(() -> x.changedCell(0)), NO_SUCH);
        x.leastChanges();
        x.leastByTrial();
        due(thrown(() -> x.changedCell(0)), NO_SUCH);
        due(x.mend(), 2);
        due(x.changedCell(0), 24);
        due(x.changedCell(1), 31);
        for (int index : new int[] {-1, 2, MIN, MAX}) {
            due(thrown(() -> x.changedCell(index)), NO_SUCH);
        }
        fill(x, 3, "0.0.0");
        due(thrown(x::mend), NO_SUCH);
        due(x.changedCell(1), 31);
        x.free(3, 0);
        x.free(3, 2);
        due(x.leastByTrial(), 1);
        due(x.changedCell(0), 24);
        due(x.mend(), 1);
        due(x.changedCell(0), 28);
        due(thrown(() -> x.changedCell(1)), NO_SUCH);
        due(x.mend(), 0);
        due(thrown(() -> x.changedCell(0)), NO_SUCH);
        refuses(PromiseTest::busy, NO_SUCH, y -> y.changedCell(1));
    }

    private static void p32() {
        Rosterproof x = pair();
        x.setDemand(0, 1, 1);
        x.setDemand(7, 0, 1);
        due(thrown(() -> x.changedValue(0)), NO_SUCH);
        due(x.mend(), 2);
        due(x.changedCell(0), 0);
        due(x.changedCell(1), 7);
        due(x.changedValue(0), 2);
        due(x.changedValue(1), 1);
        due(x.shiftOf(0, 0), 1);
        due(x.shiftOf(0, 7), 0);
        for (int index : new int[] {-1, 2, MIN, MAX}) {
            due(thrown(() -> x.changedValue(index)), NO_SUCH);
        }
        x.setAbsent(0, 0, true);
        x.setAbsent(0, 7, true);
        due(thrown(x::mend), NO_SUCH);
        due(x.changedValue(0), 2);
        due(x.changedValue(1), 1);
    }

    private static void p33() {
        due(full().minutes(), 23040L);
        due(fill(fill(pair(), 0, "0......1"), 1, "1.......").minutes(), 1560L);
        Rosterproof x = fill(pair(), 1, "01");
        x.free(1, 0);
        due(x.minutes(), 540L);
        x.assign(1, 1, 0);
        due(x.minutes(), 480L);
    }

    private static void p34() {
        due(full().workShare(3), 1.0f);
        Rosterproof x = fill(pair(), 1, "0..1...0");
        due(x.workShare(1), 0.375f);
        due(x.workShare(0), 0.0f);
        for (int person : new int[] {-1, 2, MIN, MAX}) {
            refuses(PromiseTest::busy, BOUNDS, y -> y.workShare(person));
        }
    }

    private static void p35() {
        Rosterproof x = fill(fill(pair(), 0, "10.0"), 1, "0");
        due(x.meanRest(0), 1230.0);
        due(thrown(() -> x.meanRest(1)), ARITHMETIC);
        x.assign(1, 7, 1);
        due(x.meanRest(1), (double) (7 * 1440 + 1320 - 960));
        x.assign(0, 4, 1);
        due(x.meanRest(0), (60 + 2400 + 1800) / 3.0);
        x.assign(0, 5, 0);
        due(x.meanRest(0), (60 + 2400 + 1800 + 60) / 4.0);
        due(fill(skilled(1, 1439, 720, 0, 1), 0, "01").meanRest(0), -719.0);
        due(fill(skilled(1, 0, 1, 1, 1), 0, "0001").meanRest(0), 4318 / 3.0);
        for (int person : new int[] {-1, 2, MIN, MAX}) {
            refuses(PromiseTest::busy, BOUNDS, y -> y.meanRest(person));
        }
        refuses(() -> skilled(1, 0, 1), ARITHMETIC, y -> y.meanRest(0));
    }

    private static void p36() {
        List<Supplier<Rosterproof>> makers = List.of(Rosterproof::new, PromiseTest::pair, PromiseTest::busy,
                PromiseTest::full, () -> unskilled("0......0"), () -> demanding(2));
        for (Supplier<Rosterproof> maker : makers) {
            changesNothing(maker, x -> due(x.isSound(), true));
        }
    }

    public static void main(String[] args) {
        runAll(PromiseTest.class);
    }
}
