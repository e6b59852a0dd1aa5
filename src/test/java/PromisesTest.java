/** Each promise of the document by itself: ordinary inputs, edges, wrong inputs; the answers are worked out by hand. */
public final class PromisesTest {
    private static final int UNKNOWN = -1, BAD = -2, LATE = -3, FULL = -4, NONE = -9;
    private static int wrong = 0;
    private static int asked = 0;

    private static void due(String what, long got, long want) {
        asked++;
        if (got != want) {
            wrong++;
            System.out.println(what + " answered " + got + ", due is " + want);
        }
    }

    private static int told(StripsOfFour x, String text) {
        x.wipe();
        for (int i = 0; i < text.length(); i++) {
            x.write(text.charAt(i));
        }
        return x.fault();
    }

    private static StripsOfFour fairOf(String text) {
        StripsOfFour x = new StripsOfFour();
        told(x, text);
        if (x.fair() < 0) {
            due("a fair of " + text, 0, 1);
        }
        return x;
    }

    private static void minutes(StripsOfFour x, int n) {
        for (int i = 0; i < n; i++) {
            x.minute();
        }
    }

    public static void main(String[] args) {
        promise1();
        promises2and3();
        promise4();
        promise5();
        promise6();
        promise7();
        promise8();
        promises9and10();
        promise11();
        promise12();
        promise13();
        promise14();
        promise15();
        promise15Draws();
        promise15FullChute();
        promise16();
        promise17();
        promise18();
        promise19();
        promise20();
        promise21();
        promises22and23();
        promise24();
        promise25();
        promise26();
        promise27();
        promise28();
        promise29();
        promise30();
        promises31and32();
        System.out.println(wrong == 0 ? asked + " answers, all as due" : wrong + " answers are not as due");
        if (wrong != 0) {
            System.exit(1);
        }
    }

    private static void promise1() {
        StripsOfFour x = new StripsOfFour();
        int[] first = {0, 0, 0, 0, 0, 0, NONE, 0, 0, 0};
        for (int what = 0; what < 10; what++) {
            due("1 about(" + what + ")", x.about(what), first[what]);
        }
        due("1 seed", x.seed(1), 0);
        due("1 again(0)", x.again(0), LATE);
        due("1 again(1)", x.again(1), LATE);
        due("1 booth", x.booth(0, 0), UNKNOWN);
        due("1 person", x.person(0, 0), UNKNOWN);
        due("1 strip", x.strip(0, 0), UNKNOWN);
        due("1 orders of none", x.orders(), 1);
        due("1 together of none, ways", x.together(1), 1);
    }

    private static void promises2and3() {
        StripsOfFour x = new StripsOfFour();
        due("2 write(-1)", x.write(-1), BAD);
        due("2 write(256)", x.write(256), BAD);
        for (int i = 1; i <= 24; i++) {
            due("2 write", x.write(i == 1 ? 0 : 255), i);
        }
        due("2 write when full", x.write(66), FULL);
        due("2 a wrong write when full", x.write(256), BAD);
        due("2 length stays", x.about(9), 24);
        due("3 wipe", x.wipe(), 24);
        due("3 wipe again", x.wipe(), 0);
        due("3 empty", x.about(9), 0);
        due("2 write behind wipe", x.write('B'), 1);
    }

    private static void promise4() {
        StripsOfFour x = new StripsOfFour();
        String[] texts = {"", "B", "B0", "B9", "b0", "XB0", "Bx", "B:", "B/", "B0x", "B0S", "B0S1", "B0S15", "B0S10", "B0Sx",
            "B0S0x", "B0P", "B0P9", "B0Px", "B0P0P1P2P3P4", "B0P0P1P2P3P4P", "B0P0P1P2P3P4S01S99", "B0P0P1P2P3P4S01S99S",
            "B0S01S99P0P1P2P3P4P", "B0S01P1S12", "B0S01S01S0", "B0S01S01x", "B0S01S01P", "BB", "S01", "B00",
            "B0S01S99P0P1P2P3P4P5P6P7"};
        int[] faults = {0, 1, NONE, NONE, 0, 0, 1, 1, 1, 2, 3, 4, NONE, 4, 3,
            4, 3, NONE, 3, NONE, 12, NONE, 18,
            18, NONE, 8, 8, 9, 1, 0, 2,
            18};
        for (int i = 0; i < texts.length; i++) {
            due("4 fault of '" + texts[i] + "'", told(x, texts[i]), faults[i]);
        }
    }

    private static void promise5() {
        StripsOfFour x = new StripsOfFour();
        due("5 fair of nothing", x.fair(), LATE);
        told(x, "B0");
        due("5 no parts", x.fair(), 0);
        told(x, "B4P1S23S01P2");
        due("5 fair", x.fair(), 22);
        due("5 numbered as told: booth 0", x.booth(0, 0), 2);
        due("5 numbered as told: booth 1", x.booth(1, 0), 0);
        due("5 numbered as told: person 1", x.person(1, 0), 2);
        due("5 the text stays", x.about(9), 12);
        x.seed(77);
        x.enter(0, 1);
        x.hat(0);
        minutes(x, 5);
        x.day();
        x.leave(0);
        x.keep(0);
        x.keep(1);
        told(x, "B4P");
        due("5 a fault", x.fair(), LATE);
        due("5 what is refused changes nothing: strips", x.about(5), 1);
        due("5 what is refused changes nothing: minute", x.about(3), 5);
        due("5 what is refused changes nothing: booths", x.about(0), 2);
        due("5 what is refused changes nothing: person", x.person(1, 0), 2);
        due("5 what is refused changes nothing: kept", x.again(0), 5);
        long seed = x.seed(123);
        x.seed(seed);
        told(x, "B1S11P3");
        due("5 anew", x.fair(), 11);
        int[] anew = {1, 1, 1, 0, 0, 0, NONE, 0, 0, 7};
        for (int what = 0; what < 10; what++) {
            due("5 anew about(" + what + ")", x.about(what), anew[what]);
        }
        due("5 nobody is in", x.booth(0, 2), 0);
        due("5 nothing begun", x.booth(0, 3), 0);
        due("5 left none", x.person(0, 2), NONE);
        due("5 left never", x.person(0, 3), NONE);
        due("5 kept is gone", x.again(0), LATE);
        due("5 kept is gone", x.again(1), LATE);
        due("5 no acts", x.undo(), LATE);
        due("5 the seed stays", x.seed(0), seed);
    }

    private static void promise6() {
        StripsOfFour x = fairOf("B3S01P0P9");
        x.enter(1, 0);
        x.hat(1);
        minutes(x, 8);
        x.tear(1, 2);
        x.day();
        int[] want = {1, 2, 3, 8, 1, 2, 1, 12, 2, 9};
        for (int what = 0; what < 10; what++) {
            due("6 about(" + what + ")", x.about(what), want[what]);
        }
        due("6 about(10)", x.about(10), BAD);
        due("6 about(-1)", x.about(-1), BAD);
        due("6 about(min)", x.about(Integer.MIN_VALUE), BAD);
    }

    private static void promise7() {
        StripsOfFour x = fairOf("B0S34S09P0P0");
        due("7 first", x.booth(0, 0), 3);
        due("7 every", x.booth(0, 1), 4);
        due("7 every", x.booth(1, 1), 9);
        due("7 next before the first", x.booth(0, 4), 3);
        due("7 next now", x.booth(1, 4), 0);
        x.enter(1, 1);
        due("7 who is in", x.booth(1, 2), 2);
        due("7 who is in the other", x.booth(0, 2), 0);
        x.minute();
        due("7 looks begun", x.booth(1, 3), 1);
        due("7 looks begun of the other", x.booth(0, 3), 0);
        due("7 next behind a flash", x.booth(1, 4), 9);
        minutes(x, 2);
        due("7 next at its first", x.booth(0, 4), 3);
        minutes(x, 1);
        due("7 next", x.booth(0, 4), 7);
        due("7 booth 2", x.booth(2, 0), UNKNOWN);
        due("7 booth -1", x.booth(-1, 9), UNKNOWN);
        due("7 what 5", x.booth(0, 5), BAD);
        due("7 what -1", x.booth(0, -1), BAD);
    }

    private static void promise8() {
        StripsOfFour x = fairOf("B0S01S01P4P7");
        due("8 tenths", x.person(1, 0), 7);
        due("8 in none", x.person(0, 1), NONE);
        due("8 left none", x.person(0, 2), NONE);
        due("8 left never", x.person(0, 3), NONE);
        minutes(x, 2);
        x.enter(0, 1);
        due("8 in", x.person(0, 1), 1);
        due("8 left none while in", x.person(0, 2), NONE);
        minutes(x, 1);
        x.leave(0);
        due("8 in none again", x.person(0, 1), NONE);
        due("8 left", x.person(0, 2), 1);
        due("8 left at", x.person(0, 3), 3);
        x.enter(0, 0);
        minutes(x, 1);
        due("8 what it left last stays while in", x.person(0, 2), 1);
        x.leave(0);
        due("8 left last", x.person(0, 2), 0);
        due("8 left last at", x.person(0, 3), 4);
        due("8 person 2", x.person(2, 0), UNKNOWN);
        due("8 person -1", x.person(-1, 7), UNKNOWN);
        due("8 what 4", x.person(0, 4), BAD);
        due("8 what -1", x.person(0, -1), BAD);
    }

    private static void promises9and10() {
        StripsOfFour x = fairOf("B0S12S03P0P0P0");
        x.enter(0, 0);
        x.enter(1, 0);
        x.hat(1);
        minutes(x, 2);
        x.leave(0);
        minutes(x, 2);
        x.enter(2, 0);
        x.hat(2);
        minutes(x, 2);
        x.leave(2);
        x.leave(1);
        due("10 falls by the fourth", x.minute(), 0);
        due("10 falls by the fourth", x.minute(), 1);
        int[] at = {1, 3, 5, 7};
        int[] in = {3, 2, 6, 0};
        int[] hat = {1, 1, 2, NONE};
        for (int look = 0; look < 4; look++) {
            due("10 minute", x.look(0, look, 0), at[look]);
            due("10 who", x.look(0, look, 1), in[look]);
            due("10 hat", x.look(0, look, 2), hat[look]);
            due("10 blinks by no tenths", x.look(0, look, 3), 0);
        }
        due("9 booth", x.strip(0, 0), 0);
        due("9 not torn", x.strip(0, 1), 0);
        due("9 not faded", x.strip(0, 2), 0);
        due("9 all", x.strip(0, 3), 7);
        x.tear(0, 3);
        x.day();
        due("9 torn", x.strip(0, 1), 3);
        due("9 faded", x.strip(0, 2), 1);
        due("9 strip 1", x.strip(1, 0), UNKNOWN);
        due("9 strip -1", x.strip(-1, 9), UNKNOWN);
        due("9 what 4", x.strip(0, 4), BAD);
        due("9 what -1", x.strip(0, -1), BAD);
        due("10 strip 1", x.look(1, 9, 9), UNKNOWN);
        due("10 strip -1", x.look(-1, 0, 0), UNKNOWN);
        due("10 look 4", x.look(0, 4, 0), BAD);
        due("10 look -1", x.look(0, -1, 0), BAD);
        due("10 what 4", x.look(0, 0, 4), BAD);
        due("10 what -1", x.look(0, 0, -1), BAD);
        hatOfAnotherBooth();
    }

    private static void hatOfAnotherBooth() {
        StripsOfFour x = fairOf("B0S01S01P0P0");
        x.enter(0, 0);
        x.enter(1, 1);
        x.hat(0);
        minutes(x, 4);
        due("10 the hat of one that is in", x.look(0, 0, 2), 0);
        due("10 the hat is in the other booth", x.look(1, 0, 2), NONE);
        due("9 booth 0 flashes first", x.strip(0, 0), 0);
        due("9 then booth 1", x.strip(1, 0), 1);
    }

    private static void promise11() {
        StripsOfFour x = new StripsOfFour();
        due("11 at first", x.seed(Long.MIN_VALUE), 0);
        due("11 what it was", x.seed(-1), Long.MIN_VALUE);
        due("11 no act", x.about(7), 0);
        due("11 what it was", x.seed(5), -1);
    }

    private static void promise12() {
        StripsOfFour x = fairOf("B2S01S01P0P0P0P0P0");
        due("12 person 5", x.enter(5, 0), UNKNOWN);
        due("12 person -1", x.enter(-1, 0), UNKNOWN);
        due("12 booth 2", x.enter(0, 2), UNKNOWN);
        due("12 booth -1", x.enter(0, -1), UNKNOWN);
        for (int person = 0; person < 4; person++) {
            due("12 in", x.enter(person, 1), person + 1);
        }
        due("12 four are in", x.enter(4, 1), FULL);
        due("12 it is in it", x.enter(3, 1), LATE);
        due("12 it is in the other", x.enter(3, 0), LATE);
        due("12 booth unknown comes first", x.enter(3, 2), UNKNOWN);
        due("12 acts of what was not refused", x.about(7), 4);
        x.leave(3);
        due("12 the same one at once", x.enter(3, 1), 4);
        x.leave(3);
        x.enter(4, 1);
        due("12 too soon", x.enter(3, 0), LATE);
        x.minute();
        due("12 too soon by one", x.enter(3, 0), LATE);
        x.minute();
        due("12 soon enough", x.enter(3, 0), 1);
        x.leave(3);
        due("12 what it left last counts, though the other is long ago", x.enter(3, 1), LATE);
        due("12 back at once", x.enter(3, 0), 1);
        x.leave(0);
        x.enter(0, 1);
        x.leave(3);
        minutes(x, 1);
        due("12 too soon is told before full", x.enter(3, 1), LATE);
        minutes(x, 1);
        due("12 full", x.enter(3, 1), FULL);
    }

    private static void promise13() {
        StripsOfFour x = fairOf("B0S01S01P0P0P0");
        due("13 person 3", x.leave(3), UNKNOWN);
        due("13 person -1", x.leave(-1), UNKNOWN);
        due("13 in none", x.leave(0), LATE);
        x.enter(0, 0);
        x.enter(1, 0);
        x.enter(2, 1);
        x.hat(1);
        due("13 left in it", x.leave(0), 1);
        due("13 the hat stays with another", x.about(6), 1);
        due("13 left in it", x.leave(1), 0);
        due("13 nobody has the hat then", x.about(6), NONE);
        due("13 acts", x.about(7), 6);
        due("13 out already", x.leave(1), LATE);
        due("13 what is refused is no act", x.about(7), 6);
    }

    private static void promise14() {
        StripsOfFour x = fairOf("B0S01S01P0P0P0");
        due("14 person 3", x.hat(3), UNKNOWN);
        due("14 person -1", x.hat(-1), UNKNOWN);
        due("14 in no booth", x.hat(0), LATE);
        x.enter(0, 0);
        x.enter(1, 0);
        x.enter(2, 1);
        due("14 nobody had it", x.hat(0), NONE);
        due("14 it has it", x.hat(0), LATE);
        due("14 one of another booth has it", x.hat(2), LATE);
        due("14 from another one", x.hat(1), 0);
        due("14 who has it", x.about(6), 1);
        x.leave(1);
        due("14 nobody had it then", x.hat(2), NONE);
        due("14 acts", x.about(7), 7);
    }

    private static void promise15() {
        StripsOfFour x = fairOf("B0S12S01P0P0");
        due("15 nobody in, nothing begun", x.minute(), 0);
        due("15 no look", x.booth(1, 3), 0);
        x.enter(0, 0);
        x.enter(1, 1);
        due("15 none falls", x.minute(), 0);
        due("15 a look at its first minute", x.booth(0, 3), 1);
        due("15 a look", x.booth(1, 3), 1);
        x.leave(0);
        minutes(x, 1);
        due("15 no look between", x.booth(0, 3), 1);
        due("15 a look", x.booth(1, 3), 2);
        minutes(x, 1);
        due("15 a look of nobody, as it is begun", x.booth(0, 3), 2);
        due("15 one falls", x.minute(), 1);
        due("15 it is begun anew", x.booth(1, 3), 0);
        x.leave(1);
        minutes(x, 2);
        due("15 one falls", x.minute(), 1);
        due("15 as the last one", x.strip(1, 0), 0);
        due("15 the minute", x.about(3), 8);
        due("15 nobody on it at the end", x.look(1, 3, 1), 0);
        minutes(x, 3);
        due("15 nobody in, nothing begun", x.booth(0, 3) + x.booth(1, 3), 0);
        StripsOfFour y = fairOf("B0S01S01P0P0");
        y.enter(0, 0);
        y.enter(1, 1);
        minutes(y, 3);
        due("15 two fall", y.minute(), 2);
        StripsOfFour z = new StripsOfFour();
        due("15 without a fair", z.minute(), 0);
        due("15 the minute goes on", z.about(3), 1);
        due("15 an act", z.about(7), 1);
    }

    private static void promise15Draws() {
        StripsOfFour x = fairOf("B0S01S01P5P3P9P0");
        x.seed(-987654321L);
        x.enter(3, 0);
        x.enter(0, 1);
        x.enter(2, 0);
        x.enter(1, 0);
        minutes(x, 4);
        int[] tenths = {5, 3, 9, 0};
        int[][] in = {{1, 2, 3}, {0}};
        long draw = -987654321L;
        for (int look = 0; look < 4; look++) {
            for (int booth = 0; booth < 2; booth++) {
                int blinks = 0;
                for (int person : in[booth]) {
                    draw = draw * 6364136223846793005L + 1442695040888963407L;
                    long upper = draw >> 33 & 0x7fffffffL;
                    if (upper % 10 < tenths[person]) {
                        blinks |= 1 << person;
                    }
                }
                due("15 blinks", x.look(booth, look, 3), blinks);
            }
        }
        due("15 the seed goes on", x.seed(0), draw);
        minutes(x, 0);
        StripsOfFour y = fairOf("B0S01P5");
        y.seed(9);
        minutes(y, 3);
        due("15 no draw without a look", y.seed(9), 9);
    }

    private static void promise15FullChute() {
        StripsOfFour x = fairOf("B0S01S01P5P5");
        x.enter(0, 0);
        minutes(x, 1);
        x.enter(1, 1);
        minutes(x, 15);
        due("15 seven strips", x.about(5), 7);
        due("15 begun of booth 1", x.booth(1, 3), 3);
        x.leave(1);
        x.leave(0);
        x.minute();
        due("15 the eighth is of booth 1", x.strip(7, 0), 1);
        due("15 eight strips", x.about(5), 8);
        x.enter(0, 0);
        long seed = x.seed(3);
        x.seed(seed);
        due("15 none falls", x.minute(), 0);
        due("15 no look when it is full", x.booth(0, 3), 0);
        due("15 no draw when it is full", x.seed(seed), seed);
        StripsOfFour y = fairOf("B0S01S01P5P5");
        y.enter(0, 0);
        minutes(y, 28);
        y.enter(1, 1);
        minutes(y, 3);
        due("15 seven strips", y.about(5), 7);
        due("15 booth 0 comes first, then it is full", y.minute(), 1);
        due("15 the one of booth 1 stays begun", y.booth(1, 3), 3);
        due("15 the eighth", y.strip(7, 0), 0);
        minutes(y, 3);
        due("15 it stays begun", y.booth(1, 3), 3);
    }

    private static void promise16() {
        StripsOfFour x = fairOf("B0S01S01P0P0");
        due("16 none", x.stuck(), LATE);
        x.enter(0, 0);
        minutes(x, 4);
        due("16 one", x.stuck(), LATE);
        due("16 what is refused is no act", x.about(7), 5);
        x.enter(1, 1);
        minutes(x, 4);
        due("16 three", x.about(5), 3);
        x.tear(2, 3);
        due("16 stuck", x.stuck(), 0);
        due("16 the last one", x.strip(2, 0), 0);
        due("16 the one before", x.strip(1, 0), 1);
        due("16 torn goes with it", x.strip(1, 1), 3);
        due("16 torn goes with it", x.about(8), 2);
        due("16 the first one", x.look(0, 0, 0), 0);
        due("16 looks go with it", x.look(1, 0, 1), 2);
        due("16 stuck back", x.stuck(), 1);
        due("16 undone", x.undo(), 11);
        due("16 undone", x.strip(2, 0), 0);
        minutes(x, 4);
        due("16 new ones behind", x.look(3, 0, 0), 8);
        due("16 the old ones as they were", x.strip(1, 1), 3);
    }

    private static void promise17() {
        StripsOfFour x = fairOf("B0S01P0");
        due("17 none", x.tear(0, 1), UNKNOWN);
        x.enter(0, 0);
        minutes(x, 12);
        due("17 strip 3", x.tear(3, 0), UNKNOWN);
        due("17 strip -1", x.tear(-1, 1), UNKNOWN);
        due("17 k 0", x.tear(0, 0), BAD);
        due("17 k 4", x.tear(0, 4), BAD);
        due("17 torn", x.tear(2, 3), 1);
        due("17 torn", x.tear(0, 1), 2);
        due("17 torn already", x.tear(0, 1), LATE);
        due("17 BAD comes first", x.tear(0, 4), BAD);
        due("17 bits", x.about(8), 5);
        due("17 where", x.strip(2, 1), 3);
        due("17 where", x.strip(0, 1), 1);
        x.undo();
        due("17 undone", x.strip(0, 1), 0);
        due("17 torn anew", x.tear(0, 2), 2);
    }

    private static void promise18() {
        StripsOfFour x = fairOf("B0S01P0");
        due("18 a day", x.day(), 1);
        x.enter(0, 0);
        minutes(x, 4);
        due("18 a new one is not faded", x.strip(0, 2), 0);
        due("18 a day", x.day(), 2);
        minutes(x, 4);
        due("18 the minute goes on as it is", x.about(3), 8);
        due("18 a day", x.day(), 3);
        due("18 faded", x.strip(0, 2), 2);
        due("18 faded", x.strip(1, 2), 1);
        for (int i = 4; i < 15; i++) {
            due("18 a day", x.day(), i);
        }
        due("18 9 at most", x.strip(0, 2), 9);
        due("18 9 at most", x.strip(1, 2), 9);
        for (int i = 0; i < 4; i++) {
            x.undo();
        }
        due("18 undone", x.strip(0, 2), 9);
        due("18 undone", x.strip(1, 2), 8);
        due("18 undone", x.about(4), 10);
    }

    private static void promise19() {
        StripsOfFour x = fairOf("B3S01S01P5P5");
        due("19 none", x.undo(), LATE);
        x.seed(42);
        x.enter(0, 0);
        x.hat(0);
        x.leave(0);
        due("19 out undone", x.undo(), 2);
        due("19 in it again", x.person(0, 1), 0);
        due("19 the hat again", x.about(6), 0);
        due("19 left none", x.person(0, 2), NONE);
        due("19 left never", x.person(0, 3), NONE);
        x.enter(1, 0);
        x.hat(1);
        due("19 hat undone", x.undo(), 3);
        due("19 who had it", x.about(6), 0);
        due("19 in undone", x.undo(), 2);
        due("19 who is in", x.booth(0, 2), 1);
        minutes(x, 3);
        long seed = x.seed(0);
        x.seed(seed);
        due("19 one falls", x.minute(), 1);
        due("19 a minute undone", x.undo(), 5);
        due("19 the strip is begun again", x.booth(0, 3), 3);
        due("19 no strip", x.about(5), 0);
        due("19 the minute", x.about(3), 3);
        due("19 the seed as well", x.seed(seed), seed);
        x.minute();
        x.seed(1);
        x.undo();
        due("19 the seed as before the act", x.seed(seed), seed);
        x.day();
        x.seed(1);
        x.undo();
        due("19 the seed as before any act", x.seed(seed), seed);
        for (int i = 0; i < 4; i++) {
            x.undo();
        }
        due("19 one is left", x.about(7), 1);
        due("19 none is left", x.undo(), 0);
        due("19 all undone: seed", x.seed(42), 42);
        due("19 all undone: nobody in", x.booth(0, 2), 0);
        due("19 none", x.undo(), LATE);
        for (int i = 1; i <= 15; i++) {
            x.day();
            due("19 12 at most", x.about(7), Math.min(12, i));
        }
        for (int i = 11; i >= 0; i--) {
            due("19 undone", x.undo(), i);
        }
        due("19 the first ones are forgotten", x.undo(), LATE);
        due("19 the first ones stay", x.about(4), 3);
    }

    /** Four looks of one strip: {0}, {0, 1}, {0}, {0, 1}. */
    private static StripsOfFour fairOfOneStrip() {
        StripsOfFour x = fairOf("B0S01P0P0P0P0P0");
        x.enter(0, 0);
        for (int i = 0; i < 2; i++) {
            x.minute();
            x.enter(1, 0);
            x.minute();
            x.leave(1);
        }
        return x;
    }

    private static void promise20() {
        StripsOfFour x = fairOfOneStrip();
        due("20 one set", x.found(0, 1, 1), 0);
        due("20 one set", x.found(0, 1, 3), 1);
        due("20 none shows it", x.found(0, 1, 2), NONE);
        due("20 two sets", x.found(0, 2, 103), 0);
        due("20 two sets", x.found(0, 2, 301), 1);
        due("20 the first one first", x.found(0, 2, 303), NONE);
        due("20 three sets", x.found(0, 3, 30103), 1);
        due("20 four sets", x.found(0, 4, 1030103), 0);
        due("20 not over its end", x.found(0, 4, 3010301), NONE);
        due("20 strip 1", x.found(1, 9, -1), UNKNOWN);
        due("20 strip -1", x.found(-1, 1, 1), UNKNOWN);
        due("20 n 0", x.found(0, 0, 0), BAD);
        due("20 n 5", x.found(0, 5, 0), BAD);
        due("20 row -1", x.found(0, 1, -1), BAD);
        due("20 row of three figures", x.found(0, 1, 100), BAD);
        due("20 row of 31", x.found(0, 1, 31), NONE);
        due("20 row of 32", x.found(0, 1, 32), BAD);
        due("20 row of 32 first", x.found(0, 2, 3200), BAD);
        due("20 row of nine figures", x.found(0, 4, 100000000), BAD);
        due("20 row of the largest", x.found(0, 4, 31313131), NONE);
        due("20 row of eight figures, 32 first", x.found(0, 4, 32000000), BAD);
        due("20 row of an int's most", x.found(0, 4, Integer.MAX_VALUE), BAD);
        x.tear(0, 1);
        due("20 not over where it is torn", x.found(0, 2, 103), 2);
        due("20 right behind", x.found(0, 2, 301), 1);
        due("20 behind it", x.found(0, 3, 30103), 1);
        due("20 all of it", x.found(0, 4, 1030103), NONE);
        due("20 before it", x.found(0, 1, 1), 0);
        x.undo();
        x.tear(0, 3);
        due("20 up to there", x.found(0, 3, 10301), 0);
        due("20 not over it", x.found(0, 3, 30103), NONE);
        due("20 behind it", x.found(0, 1, 3), 1);
        due("20 nothing is changed", x.about(7), 10);
    }

    /** Strips of one booth whose looks have the hats that are told, one figure a look, 9 for nobody. */
    private static StripsOfFour hats(String told) {
        StripsOfFour x = fairOf("B0S01P0P0P0");
        x.enter(0, 0);
        x.enter(1, 0);
        x.enter(2, 0);
        for (int i = 0; i < told.length(); i++) {
            int next = told.charAt(i) - '0';
            int has = x.about(6);
            if (next == 9 && has != NONE) {
                x.leave(has);
                x.enter(has, 0);
            } else if (next != 9 && next != has) {
                x.hat(next);
            }
            x.minute();
        }
        return x;
    }

    private static void promise21() {
        StripsOfFour x = hats("0011" + "1100" + "9999" + "0022" + "2222");
        due("21 what 2", x.together(2), BAD);
        due("21 what -1", x.together(-1), BAD);
        due("21 none is torn", x.together(0), 0);
        due("21 none is torn, ways", x.together(1), 1);
        x.tear(0, 2);
        due("21 not even with its own: the hat changed heads", x.together(0), 0);
        due("21 no way", x.together(1), 0);
        x.tear(1, 2);
        // upper 0 ends with 0, upper 1 with 1; lower 0 begins with 1, lower 1 with 0
        due("21 crosswise", x.together(0), 2);
        due("21 one way", x.together(1), 1);
        x.tear(2, 2);
        due("21 nobody fits all", x.together(0), 3);
        // uppers 0, 1, nobody with lowers 1, 0, nobody
        due("21 ways", x.together(1), 3);
        x.tear(3, 2);
        // uppers 0, 1, nobody, 0 with lowers 1, 0, nobody, 2
        due("21 at most", x.together(0), 4);
        due("21 ways", x.together(1), 2);
        x.tear(4, 1);
        due("21 of another length", x.together(0), 5);
        due("21 of another length, ways", x.together(1), 2);
        StripsOfFour y = hats("0011" + "0011" + "0000");
        y.tear(0, 2);
        y.tear(1, 2);
        y.tear(2, 3);
        due("21 four looks together, not five", y.together(0), 1);
        due("21 not all", y.together(1), 0);
        StripsOfFour z = hats("0000".repeat(8));
        for (int i = 0; i < 8; i++) {
            z.tear(i, 2);
        }
        due("21 eight", z.together(0), 8);
        due("21 eight, ways", z.together(1), 40320);
    }

    private static void promises22and23() {
        StripsOfFour x = hats("0001" + "1002" + "2000");
        // 0 > 1 > 2 > 0: three turns of a ring
        due("22 a ring", x.orders(), 3);
        due("23 at all places", x.orderAt(0), 7);
        due("23 at all places", x.orderAt(2), 7);
        StripsOfFour y = hats("0111" + "0222" + "2111" + "1110");
        // 0 > 3, 1 > 2, 2 > 3, 3 > 0, 3 > 1: the rows 1 2 3 0 and 0 3 1 2
        due("22 orders", y.orders(), 2);
        due("23 place 0, 3", y.orderAt(0), 9);
        due("23 place 0, 2", y.orderAt(1), 5);
        StripsOfFour z = hats("0111" + "0222");
        due("22 none", z.orders(), 0);
        due("23 nowhere", z.orderAt(0), 0);
        due("23 strip 2", z.orderAt(2), UNKNOWN);
        due("23 strip -1", z.orderAt(-1), UNKNOWN);
        StripsOfFour w = hats("9" + "000" + "1119" + "2000" + "1119");
        // nobody at the first look of 0, and at the last looks of 1 and 3
        due("22 nobody", w.orders(), ordersOfW());
        StripsOfFour six = hats("0000".repeat(6));
        due("22 six", six.orders(), 720);
        due("23 six", six.orderAt(5), 63);
        minutes(six, 4);
        due("22 seven", six.orders(), LATE);
        due("23 seven", six.orderAt(0), LATE);
        due("23 unknown comes first", six.orderAt(7), UNKNOWN);
        six.undo();
        due("23 without orders before, one begun", six.orderAt(0), 63);
        StripsOfFour alone = hats("0001" + "1110");
        due("23 without orders before", alone.orderAt(1), 3);
        StripsOfFour one = hats("0001");
        due("22 one", one.orders(), 1);
        due("23 one", one.orderAt(0), 1);
    }

    /** Firsts nobody, 1, 2, 1; lasts 0, nobody, 0, nobody: all rows, gone through. */
    private static int ordersOfW() {
        int[] first = {9, 1, 2, 1};
        int[] last = {0, 9, 0, 9};
        int hold = 0;
        for (int row = 0; row < 256; row++) {
            int[] at = {row & 3, row >> 2 & 3, row >> 4 & 3, row >> 6 & 3};
            boolean good = (1 << at[0] | 1 << at[1] | 1 << at[2] | 1 << at[3]) == 15;
            for (int i = 0; i < 3; i++) {
                good &= last[at[i]] == 9 || first[at[i + 1]] == 9 || last[at[i]] == first[at[i + 1]];
            }
            hold += good ? 1 : 0;
        }
        return hold;
    }

    private static void promise24() {
        StripsOfFour x = fairOf("B3S22S01P0P0");
        x.enter(0, 0);
        minutes(x, 9);
        due("24 one strip at 2, 4, 6, 8", x.look(0, 3, 0), 8);
        due("24 as it is", x.forgery(0, 2, 1010101), NONE);
        due("24 another set at first", x.forgery(0, 2, 10101), 0);
        due("24 another set at last", x.forgery(0, 2, 1010103), 3);
        due("24 another set from a later minute on", x.forgery(0, 4, 1010000), 2);
        due("24 behind all", x.forgery(0, 10, 3020100), NONE);
        due("24 no minute of it", x.forgery(0, 3, 1010101), 0);
        due("24 before its first", x.forgery(0, 0, 1010101), 0);
        due("24 it is on the other", x.forgery(1, 8, 1000000), 0);
        due("24 less than a walk from it", x.forgery(1, 10, 1000000), 0);
        due("24 a walk from it", x.forgery(1, 11, 1010101), NONE);
        due("24 a walk before it is not enough", x.forgery(1, 0, 1000000), 0);
        due("24 nobody, one that was not there", x.forgery(1, 5, 2000202), NONE);
        due("24 the first one that can not be", x.forgery(1, 7, 2020302), 2);
        due("24 people there are none of", x.forgery(1, 11, 31313131), NONE);
        due("24 m 999", x.forgery(1, 999, 0), NONE);
        due("24 m 1000", x.forgery(1, 1000, 0), BAD);
        due("24 m -1", x.forgery(1, -1, 0), BAD);
        due("24 row -1", x.forgery(1, 0, -1), BAD);
        due("24 row 32", x.forgery(1, 0, 320000), BAD);
        due("24 row of nine figures", x.forgery(1, 0, 100000000), BAD);
        due("24 booth 2", x.forgery(2, -1, -1), UNKNOWN);
        due("24 booth -1", x.forgery(-1, 0, 0), UNKNOWN);
        StripsOfFour y = fairOf("B0S11S01P0");
        y.enter(0, 0);
        minutes(y, 6);
        due("24 without a walk: before it", y.forgery(1, 0, 1000000), NONE);
        due("24 without a walk: at that minute", y.forgery(1, 0, 1010000), 1);
        due("24 a begun strip does not count", y.forgery(1, 5, 1000000), NONE);
        due("24 a begun strip does not count", y.forgery(0, 5, 0), NONE);
    }

    private static void promise25() {
        StripsOfFour x = fairOf("B9S01S01P0P0P0P0P0");
        x.enter(4, 0);
        due("25 as it is", x.toSit(0, 16161616), 0);
        due("25 out", x.toSit(0, 0), 1);
        due("25 in and out", x.toSit(0, 1000100), 5);
        due("25 four for four", x.toSit(0, 15301530), 3 + 2 + 2 + 2 + 2);
        due("25 the other booth", x.toSit(1, 16161616), 1);
        due("25 five of them", x.toSit(0, 31), BAD);
        due("25 five of them first", x.toSit(0, 31000000), BAD);
        due("25 row -1", x.toSit(0, -1), BAD);
        due("25 row 32", x.toSit(0, 32), BAD);
        due("25 row of nine figures", x.toSit(0, 100000000), BAD);
        due("25 booth 2", x.toSit(2, -1), UNKNOWN);
        due("25 booth -1", x.toSit(-1, 0), UNKNOWN);
        StripsOfFour y = fairOf("B0S01P0P0");
        due("25 those that there are", y.toSit(0, 3030303), 2);
        due("25 one that there is not", y.toSit(0, 4), BAD);
        due("25 one that there is not", y.toSit(0, 8000000), BAD);
    }

    private static void promise26() {
        StripsOfFour x = fairOf("B2S02S01P0P0P0");
        x.enter(0, 0);
        minutes(x, 7);
        // booth 0 has looks at 0, 2, 4, 6 with 0 alone
        due("26 on a look", x.between(0, 2), 1);
        due("26 between two looks", x.between(0, 3), 1 + 4);
        due("26 one that is not on it", x.between(1, 2), 2 + 4);
        due("26 one that is nowhere to be seen", x.between(1, 3), 1 + 2 + 4);
        due("26 less than a walk behind", x.between(0, 7), 1 + 4);
        due("26 a walk behind", x.between(0, 8), 1 + 2 + 4);
        due("26 m 999", x.between(2, 999), 7);
        due("26 m 1000", x.between(2, 1000), BAD);
        due("26 m -1", x.between(2, -1), BAD);
        due("26 person 3", x.between(3, -1), UNKNOWN);
        due("26 person -1", x.between(-1, 0), UNKNOWN);
        StripsOfFour y = fairOf("B0S01P0P0");
        y.enter(0, 0);
        minutes(y, 4);
        due("26 one booth", y.between(0, 3), 1);
        due("26 one booth", y.between(1, 3), 4);
        due("26 one booth", y.between(1, 4), 5);
        StripsOfFour z = fairOf("B0S01S01P0");
        z.enter(0, 0);
        minutes(z, 5);
        due("26 without a walk: on a look", z.between(0, 3), 1);
        due("26 without a walk: a begun strip does not count", z.between(0, 4), 7);
    }

    private static void promise27() {
        StripsOfFour x = fairOf("B0S53S01P0");
        due("27 before its first", x.most(0, 4), 0);
        due("27 three flashes", x.most(0, 13), 0);
        due("27 four flashes: 5, 8, 11, 14", x.most(0, 14), 1);
        due("27 seven", x.most(0, 25), 1);
        due("27 eight: up to 26", x.most(0, 26), 2);
        due("27 999", x.most(1, 999), 250);
        due("27 at 0", x.most(1, 0), 0);
        x.enter(0, 0);
        minutes(x, 6);
        due("27 the one that is begun counts", x.booth(0, 3), 1);
        due("27 from the minute on", x.most(0, 13), 0);
        due("27 from the minute on", x.most(0, 14), 1);
        due("27 before the minute", x.most(0, 3), 0);
        minutes(x, 9);
        due("27 what has fallen does not count", x.most(0, 25), 0);
        due("27 what has fallen does not count", x.most(0, 26), 1);
        minutes(x, 90);
        due("27 the chute is full", x.about(5), 8);
        due("27 the chute is never full", x.most(0, 999), (999 - 107) / 3 / 4);
        due("27 m -1", x.most(0, -1), BAD);
        due("27 m 1000", x.most(0, 1000), BAD);
        due("27 booth 2", x.most(2, -1), UNKNOWN);
        due("27 booth -1", x.most(-1, 0), UNKNOWN);
    }

    private static void promise28() {
        StripsOfFour x = fairOf("B0S01P9P0P9");
        x.enter(0, 0);
        x.enter(1, 0);
        minutes(x, 2);
        x.leave(1);
        minutes(x, 5);
        int blinks = 0;
        for (int look = 0; look < 4; look++) {
            blinks += x.look(0, look, 3) & 1;
        }
        due("28 looks of strips", x.eyes(0, 0), 4);
        due("28 looks of strips", x.eyes(1, 0), 2);
        due("28 none", x.eyes(2, 0), 0);
        due("28 blinks", x.eyes(0, 1), blinks);
        due("28 no blinks", x.eyes(1, 1), 0);
        x.minute();
        due("28 the next strip counts", x.eyes(0, 0), 8);
        due("28 what 2", x.eyes(0, 2), BAD);
        due("28 what -1", x.eyes(0, -1), BAD);
        due("28 person 3", x.eyes(3, 2), UNKNOWN);
        due("28 person -1", x.eyes(-1, 0), UNKNOWN);
    }

    private static void promise29() {
        StripsOfFour x = fairOf("B0P2P4P0");
        // one blink on two looks: 2 * 8 = 16, 4 * 6 = 24, 0
        due("29 above", x.whose(0, 2, 1, true), 2);
        due("29 below", x.whose(0, 2, 1, false), 5);
        due("29 above", x.whose(1, 2, 1, true), 3);
        due("29 can not be: above", x.whose(2, 2, 1, true), 0);
        due("29 can not be: below", x.whose(2, 2, 1, false), 1);
        // no blink on one: 8, 6, 10
        due("29 no blink", x.whose(2, 1, 0, true), 5);
        due("29 no blink", x.whose(2, 1, 0, false), 12);
        due("29 n 0", x.whose(0, 0, 0, true), BAD);
        due("29 n 9", x.whose(0, 9, 0, true), BAD);
        due("29 k -1", x.whose(0, 1, -1, true), BAD);
        due("29 k over n", x.whose(0, 1, 2, true), BAD);
        due("29 person 3", x.whose(3, 0, 0, true), UNKNOWN);
        due("29 person -1", x.whose(-1, 1, 1, true), UNKNOWN);
        StripsOfFour y = fairOf("B0P0P0");
        due("29 it can be nobody", y.whose(0, 8, 1, true), LATE);
        due("29 it can be nobody", y.whose(1, 8, 8, false), LATE);
        due("29 each as likely", y.whose(1, 8, 0, false), 2);
        StripsOfFour z = fairOf("B0P9P1P0");
        // eight looks, no blink: 1, 9 to the 8th, 10 to the 8th, all by 2
        due("29 large", z.whose(2, 8, 0, true), 100000000L / 2);
        due("29 large", z.whose(2, 8, 0, false), (1L + 43046721L + 100000000L) / 2);
    }

    private static void promise30() {
        StripsOfFour x = fairOf("B0S01S01P5P2P0P9");
        due("30 nobody, none", x.open(0, 0, true), 1);
        due("30 nobody, none", x.open(0, 0, false), 1);
        due("30 nobody, one", x.open(0, 1, true), 0);
        due("30 nobody, one", x.open(0, 1, false), 1);
        x.enter(0, 0);
        x.enter(1, 0);
        // both 5/10 * 8/10 = 2/5; none 5/10 * 2/10 = 1/10
        due("30 both", x.open(0, 2, true), 2);
        due("30 both", x.open(0, 2, false), 5);
        due("30 one or more", x.open(0, 1, true), 9);
        due("30 one or more", x.open(0, 1, false), 10);
        due("30 more than are in", x.open(0, 3, true), 0);
        due("30 more than are in", x.open(0, 3, false), 1);
        due("30 the other booth", x.open(1, 1, true), 0);
        x.enter(2, 0);
        x.enter(3, 0);
        // all four: 1/2 * 4/5 * 1 * 1/10 = 1/25
        due("30 four", x.open(0, 4, true), 1);
        due("30 four", x.open(0, 4, false), 25);
        due("30 five", x.open(0, 5, true), 0);
        due("30 k 6", x.open(0, 6, true), BAD);
        due("30 k -1", x.open(0, -1, true), BAD);
        due("30 booth 2", x.open(2, 6, true), UNKNOWN);
        due("30 booth -1", x.open(-1, 0, true), UNKNOWN);
    }

    private static void promises31and32() {
        StripsOfFour x = fairOf("B2S01S01P5P5");
        due("31 slot 2", x.keep(2), UNKNOWN);
        due("31 slot -1", x.keep(-1), UNKNOWN);
        due("32 slot 2", x.again(2), UNKNOWN);
        due("32 slot -1", x.again(-1), UNKNOWN);
        due("32 none was kept", x.again(0), LATE);
        x.seed(11);
        x.enter(0, 0);
        x.hat(0);
        minutes(x, 7);
        x.tear(0, 2);
        x.day();
        long seed = x.seed(0);
        x.seed(seed);
        due("31 kept", x.keep(1), 7);
        due("31 the acts stay", x.about(7), 11);
        due("32 the other was not kept", x.again(0), LATE);
        minutes(x, 1);
        x.leave(0);
        x.day();
        due("31 kept", x.keep(0), 8);
        due("32 as it was kept", x.again(1), 7);
        due("32 no acts", x.about(7), 0);
        due("32 no acts", x.undo(), LATE);
        due("32 the seed, too", x.seed(seed), seed);
        due("32 who is in", x.booth(0, 2), 1);
        due("32 the hat", x.about(6), 0);
        due("32 the strip that is begun", x.booth(0, 3), 3);
        due("32 strips", x.about(5), 1);
        due("32 torn", x.strip(0, 1), 2);
        due("32 faded", x.strip(0, 2), 1);
        due("32 the day", x.about(4), 1);
        due("32 left none", x.person(0, 2), NONE);
        due("32 gone on from", x.minute(), 1);
        due("32 again and again", x.again(1), 7);
        due("32 not what came behind it", x.about(5), 1);
        due("32 the other one", x.again(0), 8);
        due("32 the other one", x.about(5), 2);
        due("32 left", x.person(0, 2), 0);
        due("32 left at", x.person(0, 3), 8);
        due("31 kept over", x.keep(1), 8);
        due("32 kept over", x.again(1), 8);
    }
}
