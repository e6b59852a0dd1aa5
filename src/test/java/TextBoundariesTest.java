/** The boundary cases of THE TEXT, THE FAIR and what is about them: promises 1 to 6. */
public final class TextBoundariesTest {
    private static final int BAD = Fairs.BAD, LATE = Fairs.LATE, FULL = Fairs.FULL, NONE = Fairs.NONE, UNKNOWN = Fairs.UNKNOWN;
    /** Two booths and five people: no FAIR is longer. */
    private static final String LONGEST = "B0S01S99P0P1P2P3P4";

    public static void main(String[] args) {
        Sentences.runAll(TextBoundariesTest.class);
    }

    private static void due(String call, long got, long want) {
        Sentences.due(call, got, want);
    }

    private static void faultOf(String text, int want) {
        due("fault of '" + text + "'", Fairs.tell(new StripsOfFour(), text), want);
    }

    // ---- a new object

    @Says("`StripsOfFour()`: No BOOTHS, nobody.")
    static void newObject() {
        StripsOfFour x = new StripsOfFour();
        due("booths", x.about(0), 0);
        due("people", x.about(1), 0);
        due("booth 0", x.booth(0, 0), UNKNOWN);
        due("person 0", x.person(0, 0), UNKNOWN);
        due("enter", x.enter(0, 0), UNKNOWN);
        due("leave", x.leave(0), UNKNOWN);
        due("hat", x.hat(0), UNKNOWN);
        due("toSit", x.toSit(0, 0), UNKNOWN);
        due("forgery", x.forgery(0, 0, 0), UNKNOWN);
        due("between", x.between(0, 0), UNKNOWN);
        due("most", x.most(0, 0), UNKNOWN);
        due("eyes", x.eyes(0, 0), UNKNOWN);
        due("whose", x.whose(0, 1, 0, true), UNKNOWN);
        due("open", x.open(0, 0, true), UNKNOWN);
    }

    @Says("At first WALK is 0, there are no BOOTHS, nobody.")
    static void walkAtFirst() {
        due("walk", new StripsOfFour().about(2), 0);
    }

    @Says("THE MINUTE is 0, THE DAY 0 at first")
    static void minuteAndDayAtFirst() {
        StripsOfFour x = new StripsOfFour();
        due("minute", x.about(3), 0);
        due("day", x.about(4), 0);
    }

    @Says("nobody is in a BOOTH, nobody has THE HAT, there are no STRIPS.")
    static void hatAndStripsAtFirst() {
        StripsOfFour x = new StripsOfFour();
        due("strips", x.about(5), 0);
        due("hat", x.about(6), NONE);
        due("acts", x.about(7), 0);
        due("torn", x.about(8), 0);
        due("bytes", x.about(9), 0);
        due("strip 0", x.strip(0, 0), UNKNOWN);
        due("look", x.look(0, 0, 0), UNKNOWN);
    }

    @Says("THE SEED, a long; 0 at first")
    static void seedAtFirst() {
        due("seed", new StripsOfFour().seed(4), 0);
    }

    @Says("An object is used for at most 512 calls after it has been made")
    static void call512() {
        StripsOfFour x = new StripsOfFour();
        for (char c : "B0S99P0".toCharArray()) {
            x.write(c);
        }
        x.fair();
        x.enter(0, 0);
        for (int i = 1; i <= 501; i++) {
            due("minute " + i, x.minute(), i >= 37 && i < 290 && (i - 1) % 36 == 0 ? 1 : 0);
        }
        due("call 511: strips", x.about(5), 8);
        due("call 512: minute", x.about(3), 501);
    }

    // ---- write, wipe

    @Says("A byte (0 .. 255) comes behind THE TEXT: how long it is. BAD")
    static void writeSmallestAndLargest() {
        StripsOfFour x = new StripsOfFour();
        due("write(0)", x.write(0), 1);
        due("write(255)", x.write(255), 2);
        due("write(-1)", x.write(-1), BAD);
        due("write(256)", x.write(256), BAD);
        for (int far : Fairs.FAR) {
            due("write(" + far + ")", x.write(far), BAD);
        }
        due("a byte, not its lowest eight bits", x.write(256 + 'B'), BAD);
        due("bytes", x.about(9), 2);
    }

    @Says("THE TEXT is bytes (24 at most).")
    static void write24() {
        StripsOfFour x = new StripsOfFour();
        for (int i = 1; i <= 24; i++) {
            due("write", x.write('B'), i);
        }
        due("bytes", x.about(9), 24);
    }

    @Says("FULL: there are 24.")
    static void writeFull() {
        StripsOfFour x = new StripsOfFour();
        Fairs.tell(x, LONGEST + "xxxxx");
        due("the 24th", x.write('x'), 24);
        due("the 25th", x.write('x'), FULL);
        due("the 25th again", x.write(0), FULL);
        due("bytes", x.about(9), 24);
        due("fault", x.fault(), 18);
    }

    @Says("THE TEXT is empty: how long it was.")
    static void wipeEmptyAndFull() {
        StripsOfFour x = new StripsOfFour();
        due("of an empty one", x.wipe(), 0);
        x.write('B');
        due("of one", x.wipe(), 1);
        due("once more", x.wipe(), 0);
        for (int i = 0; i < 25; i++) {
            x.write('B');
        }
        due("of a full one", x.wipe(), 24);
        due("bytes", x.about(9), 0);
        due("fault", x.fault(), 0);
        due("write behind it", x.write('B'), 1);
    }

    @Says("THE TEXT is empty")
    static void wipedBytesDoNotShow() {
        StripsOfFour x = Fairs.of("B0S01P0");
        x.wipe();
        x.write('B');
        due("fault: the wiped bytes are gone", x.fault(), 1);
        due("the fair stays: booths", x.about(0), 1);
        due("the fair stays: people", x.about(1), 1);
    }

    // ---- fault

    @Says("the place of the first byte by which THE TEXT can be no FAIR, whatever came behind it")
    static void faultByAByte() {
        faultOf("XB0", 0);
        faultOf("b0", 0);
        faultOf("0", 0);
        faultOf("BB0", 1);
        faultOf("Bx0", 1);
        faultOf("B0x", 2);
        faultOf("B00", 2);
        faultOf("B0B", 2);
        faultOf("B0s01", 2);
        faultOf("B0p1", 2);
        faultOf("B0Sx1", 3);
        faultOf("B0S0S", 4);
        faultOf("B0S01x", 5);
        faultOf("B0PP", 3);
        faultOf("B0P1 ", 4);
    }

    @Says("the place of the first byte by which THE TEXT can be no FAIR")
    static void faultIsTheFirstOfSeveral() {
        faultOf("B0xSxPx", 2);
        faultOf("B0S00Px", 4);
        faultOf("xxx", 0);
    }

    @Says("the place of the first byte by which THE TEXT can be no FAIR")
    static void faultBySmallestAndLargestByte() {
        faultOf("\u0000", 0);
        faultOf("\u00ff", 0);
        faultOf("B\u0000", 1);
        faultOf("B\u00ff", 1);
        faultOf("B0\u00ff", 2);
        faultOf("B0S\u0000", 3);
        // what would be B, 0, P or S by seven bits
        faultOf("\u00c2", 0);
        faultOf("B\u00b0", 1);
        faultOf("B0\u00d0", 2);
        faultOf("B0\u00d3", 2);
    }

    @Says("whatever came behind it (its length set aside)")
    static void faultInALongText() {
        faultOf(LONGEST, NONE);
        faultOf(LONGEST + "P", 18);
        faultOf(LONGEST + "S", 18);
        faultOf(LONGEST + "xxxxxx", 18);
        faultOf("B0" + "x".repeat(22), 2);
    }

    @Says("its length, if it is only not at its end")
    static void faultOfATextThatIsNotAtItsEnd() {
        faultOf("", 0);
        faultOf("B", 1);
        faultOf("B0S", 3);
        faultOf("B0S0", 4);
        faultOf("B0P", 3);
        faultOf("B0S01S", 6);
        faultOf("B0S01S0", 7);
        faultOf("B0P0P0P0P0P", 11);
        faultOf("B0S01P0P0P0P0S01P", 17);
    }

    @Says("NONE: none.")
    static void faultOfAFair() {
        faultOf("B0", NONE);
        faultOf("B0S01", NONE);
        faultOf("B0P0", NONE);
        faultOf("B0P0S01P0S01", NONE);
    }

    @Says("`int fault()`: FAULT; NONE.")
    static void faultChangesNothing() {
        StripsOfFour x = Fairs.ofEverything();
        String before = Fairs.view(x);
        Fairs.tell(x, "B9S99");
        Fairs.tell(x, "B3S01S01P2P5P9P0P4");
        Sentences.same("the fair that goes on", Fairs.view(x), before);
    }

    @Says("B, WALK (0 .. 9 MINUTES)")
    static void walkSmallestAndLargest() {
        faultOf("B/", 1);
        faultOf("B0", NONE);
        faultOf("B9", NONE);
        faultOf("B:", 1);
        faultOf("B10", 2);
        faultOf("B-1", 1);
        due("walk 0", Fairs.of("B0").about(2), 0);
        due("walk 9", Fairs.of("B9").about(2), 9);
    }

    @Says("then PARTS, none or more")
    static void noParts() {
        StripsOfFour x = new StripsOfFour();
        due("fault", Fairs.tell(x, "B5"), NONE);
        due("fair", x.fair(), 0);
        due("walk", x.about(2), 5);
        due("minute", x.minute(), 0);
        due("booth 0", x.booth(0, 0), UNKNOWN);
        due("person 0", x.person(0, 0), UNKNOWN);
    }

    @Says("BOOTHS are 0, 1 (2 at most), PEOPLE 0, 1, ..")
    static void mostBooths() {
        faultOf("B0S01S01", NONE);
        faultOf("B0S01S01S", 8);
        faultOf("B0S01S01S01", 8);
        faultOf("B0S01P0S01P0S", 12);
        StripsOfFour x = Fairs.of("B0S12S34");
        due("booth 1", x.booth(1, 0), 3);
        due("booth 2", x.booth(2, 0), UNKNOWN);
    }

    @Says("(5 at most), sets of PEOPLE bits.")
    static void mostPeople() {
        faultOf("B0P0P1P2P3P4", NONE);
        faultOf("B0P0P1P2P3P4P", 12);
        faultOf("B0P0P1P2P3P4P5", 12);
        faultOf("B0P0P1S01P2P3P4S01P", 18);
        StripsOfFour x = Fairs.of("B0P5P6P7P8P9");
        due("person 4", x.person(4, 0), 9);
        due("person 5", x.person(5, 0), UNKNOWN);
    }

    @Says("numbered as they are told")
    static void numberedAsTold() {
        StripsOfFour x = Fairs.of("B0P1S23P4S56P7");
        due("booth 0", x.booth(0, 0), 2);
        due("booth 0", x.booth(0, 1), 3);
        due("booth 1", x.booth(1, 0), 5);
        due("booth 1", x.booth(1, 1), 6);
        due("person 0", x.person(0, 0), 1);
        due("person 1", x.person(1, 0), 4);
        due("person 2", x.person(2, 0), 7);
    }

    @Says("a BOOTH that flashes at MINUTE f (0 .. 9) first")
    static void firstSmallestAndLargest() {
        faultOf("B0S/1", 3);
        faultOf("B0S01", NONE);
        faultOf("B0S91", NONE);
        faultOf("B0S:1", 3);
        due("first 0", Fairs.of("B0S01").booth(0, 0), 0);
        due("first 9", Fairs.of("B0S91").booth(0, 0), 9);
    }

    @Says("then every g MINUTES (1 .. 9)")
    static void everySmallestAndLargest() {
        faultOf("B0S00", 4);
        faultOf("B0S90", 4);
        faultOf("B0S0/", 4);
        faultOf("B0S01", NONE);
        faultOf("B0S09", NONE);
        faultOf("B0S0:", 4);
        faultOf("B0S01S10", 7);
        faultOf("B0P1S00", 6);
        faultOf("B0S01P1S00", 9);
        due("every 1", Fairs.of("B0S01").booth(0, 1), 1);
        due("every 9", Fairs.of("B0S09").booth(0, 1), 9);
    }

    @Says("a PERSON whose eyes blink by e tenths (0 .. 9)")
    static void tenthsSmallestAndLargest() {
        faultOf("B0P/", 3);
        faultOf("B0P0", NONE);
        faultOf("B0P9", NONE);
        faultOf("B0P:", 3);
        faultOf("B0P10", 4);
        due("tenths 0", Fairs.of("B0P0").person(0, 0), 0);
        due("tenths 9", Fairs.of("B0P9").person(0, 0), 9);
    }

    // ---- fair

    @Says("10 times BOOTHS, and PEOPLE.")
    static void fairOfNoneAndMost() {
        StripsOfFour x = new StripsOfFour();
        Fairs.tell(x, "B0");
        due("none", x.fair(), 0);
        Fairs.tell(x, LONGEST);
        due("most", x.fair(), 25);
        Fairs.tell(x, "B0S01S01");
        due("nobody", x.fair(), 20);
        Fairs.tell(x, "B0P1P1P1P1P1");
        due("no booths", x.fair(), 5);
    }

    @Says("LATE: a FAULT.")
    static void fairWithAFault() {
        StripsOfFour x = new StripsOfFour();
        due("of nothing", x.fair(), LATE);
        for (String text : new String[] {"B", "x", "B0S", "B0S0", "B0S00", "B0P", "B0x", LONGEST + "P", LONGEST + "xxxxxx"}) {
            Fairs.tell(x, text);
            due("of '" + text + "'", x.fair(), LATE);
        }
        due("booths", x.about(0), 0);
        due("people", x.about(1), 0);
        due("walk", x.about(2), 0);
    }

    @Says("and when THE FAIR is made anew; nobody is in a BOOTH, nobody has THE HAT, there are no STRIPS.")
    static void fairMadeAnew() {
        StripsOfFour x = Fairs.ofEverything();
        due("the same text", x.fair(), 25);
        StripsOfFour y = Fairs.of("B3S01S01P2P5P9P0P4");
        y.seed(Fairs.seedOf(x));
        Sentences.same("as a new one", Fairs.view(x), Fairs.view(y));
    }

    @Says("and when THE FAIR is made anew; nobody is in a BOOTH")
    static void fairMadeAnewForgetsWhatWasLeft() {
        StripsOfFour x = Fairs.of("B9S01S01P0");
        x.enter(0, 0);
        x.minute();
        x.leave(0);
        due("too soon", x.enter(0, 1), LATE);
        x.fair();
        due("left last", x.person(0, 2), NONE);
        due("left at", x.person(0, 3), NONE);
        due("nothing is begun", x.booth(0, 3), 0);
        due("it was never there", x.enter(0, 1), 1);
    }

    @Says("and when THE FAIR is made anew; nobody is in a BOOTH, nobody has THE HAT, there are no STRIPS.")
    static void fairMadeAnewForgetsTornStrips() {
        StripsOfFour x = Fairs.ofStrips(2);
        x.tear(0, 1);
        x.tear(1, 3);
        x.fair();
        due("torn", x.about(8), 0);
        due("strip 0", x.strip(0, 1), UNKNOWN);
        due("together", x.together(0), 0);
        due("eyes", x.eyes(0, 0), 0);
        due("forgery", x.forgery(0, 0, 0), NONE);
        due("orders", x.orders(), 1);
        x.enter(0, 0);
        Fairs.minutes(x, 4);
        due("a new one is not torn", x.about(8), 0);
    }

    @Says("THE TEXT is THE FAIR (no ACTS")
    static void fairHasNoActs() {
        StripsOfFour x = Fairs.ofEverything();
        x.fair();
        due("acts", x.about(7), 0);
        due("undo", x.undo(), LATE);
    }

    @Says("what was kept is gone")
    static void fairLosesWhatWasKept() {
        StripsOfFour x = Fairs.ofEverything();
        x.keep(1);
        x.fair();
        due("slot 0", x.again(0), LATE);
        due("slot 1", x.again(1), LATE);
    }

    @Says("THE SEED stays)")
    static void fairLeavesTheSeed() {
        StripsOfFour x = Fairs.of("B0");
        x.seed(Long.MIN_VALUE);
        x.fair();
        due("seed", x.seed(0), Long.MIN_VALUE);
    }

    @Says("THE TEXT is THE FAIR")
    static void fairLeavesTheText() {
        StripsOfFour x = Fairs.of(LONGEST);
        due("bytes", x.about(9), 18);
        due("once more", x.fair(), 25);
        x.write('x');
        due("with one byte more", x.fair(), LATE);
    }

    @Says("THE TEXT is THE FAIR")
    static void fairOfLessForgetsTheRest() {
        StripsOfFour x = Fairs.of(LONGEST);
        Fairs.tell(x, "B4S23P6");
        due("fair", x.fair(), 11);
        due("booth 1", x.booth(1, 0), UNKNOWN);
        due("person 1", x.person(1, 0), UNKNOWN);
        due("booth 0", x.booth(0, 0), 2);
        due("walk", x.about(2), 4);
    }

    // ---- about

    @Says("bytes of THE TEXT (9). BAD.")
    static void aboutOutside() {
        StripsOfFour x = Fairs.ofEverything();
        due("about(-1)", x.about(-1), BAD);
        due("about(9)", x.about(9), 18);
        due("about(10)", x.about(10), BAD);
        for (int far : Fairs.FAR) {
            due("about(" + far + ")", x.about(far), BAD);
        }
    }

    @Says("who has THE HAT (6; NONE)")
    static void aboutTheHatOfNobody() {
        StripsOfFour x = Fairs.of("B0S01P0P0");
        due("nobody", x.about(6), NONE);
        x.enter(1, 0);
        x.hat(1);
        due("1", x.about(6), 1);
        x.leave(1);
        due("nobody again", x.about(6), NONE);
    }

    @Says("TORN ones (8: bits of STRIPS)")
    static void aboutTornOfNoneAndAll() {
        StripsOfFour x = Fairs.ofStrips(8);
        due("none", x.about(8), 0);
        x.tear(7, 1);
        due("the last one", x.about(8), 128);
        x.tear(0, 1);
        due("and the first one", x.about(8), 129);
        for (int i = 1; i < 7; i++) {
            x.tear(i, 3);
        }
        due("all", x.about(8), 255);
    }

    @Says("STRIPS (5), who has THE HAT (6; NONE), ACTS (7)")
    static void aboutStripsAndActsOfNoneAndMost() {
        StripsOfFour x = Fairs.of("B0S01P0");
        due("no strips", x.about(5), 0);
        due("no acts", x.about(7), 0);
        x.enter(0, 0);
        Fairs.minutes(x, 3);
        due("a begun one is none in the chute", x.about(5), 0);
        due("acts", x.about(7), 4);
        Fairs.minutes(x, 40);
        due("most strips", x.about(5), 8);
        due("most acts", x.about(7), 12);
    }
}
