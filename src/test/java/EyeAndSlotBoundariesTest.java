/** The boundary cases of eyes and slots: promises 28 to 32. */
public final class EyeAndSlotBoundariesTest {
    private static final int BAD = Fairs.BAD, LATE = Fairs.LATE, NONE = Fairs.NONE, UNKNOWN = Fairs.UNKNOWN;

    public static void main(String[] args) {
        Sentences.runAll(EyeAndSlotBoundariesTest.class);
    }

    private static void due(String call, long got, long want) {
        Sentences.due(call, got, want);
    }

    private static void whose(StripsOfFour x, int person, int n, int k, long above, long below) {
        String call = "whose(" + person + ", " + n + ", " + k + ", ";
        due(call + "true)", x.whose(person, n, k, true), above);
        due(call + "false)", x.whose(person, n, k, false), below);
    }

    private static void open(StripsOfFour x, int booth, int k, int above, int below) {
        String call = "open(" + booth + ", " + k + ", ";
        due(call + "true)", x.open(booth, k, true), above);
        due(call + "false)", x.open(booth, k, false), below);
    }

    // ---- eyes

    @Says("EYES: LOOKS on which it is (what = 0), on which it blinks (1). UNKNOWN; BAD.")
    static void eyesOutside() {
        StripsOfFour x = Fairs.of("B0S01P0P0");
        due("person -1", x.eyes(-1, 0), UNKNOWN);
        due("person 1", x.eyes(1, 0), 0);
        due("person 2", x.eyes(2, 0), UNKNOWN);
        due("what -1", x.eyes(0, -1), BAD);
        due("what 1", x.eyes(0, 1), 0);
        due("what 2", x.eyes(0, 2), BAD);
        for (int far : Fairs.FAR) {
            due("person " + far, x.eyes(far, 0), UNKNOWN);
            due("what " + far, x.eyes(0, far), BAD);
        }
    }

    @Says("EYES: on how many LOOKS of STRIPS a PERSON is")
    static void eyesOfNoneAndAllLooks() {
        StripsOfFour x = Fairs.ofStrips(0);
        Fairs.minutes(x, 3);
        due("of a begun one", x.eyes(0, 0), 0);
        x.minute();
        due("of one", x.eyes(0, 0), 4);
        due("another one", x.eyes(4, 0), 0);
        Fairs.minutes(x, 40);
        due("of a full chute", x.eyes(0, 0), 32);
        due("no tenths", x.eyes(0, 1), 0);
        x.tear(0, 1);
        due("of torn ones, too", x.eyes(0, 0), 32);
    }

    @Says("on how many of them it blinks.")
    static void eyesThatBlink() {
        StripsOfFour x = Fairs.of("B0S01S01P9P5P0");
        x.seed(3);
        x.enter(0, 0);
        x.enter(1, 0);
        x.enter(2, 1);
        Fairs.minutes(x, 19);
        int[] blinks = new int[3];
        for (int i = 0; i < 8 * 4; i++) {
            for (int person = 0; person < 3; person++) {
                blinks[person] += x.look(i / 4, i % 4, 3) >> person & 1;
            }
        }
        for (int person = 0; person < 3; person++) {
            due("person " + person, x.eyes(person, 1), blinks[person]);
        }
        Sentences.holds("some and not all", blinks[1] > 0 && blinks[1] < 16 && blinks[2] == 0);
    }

    // ---- whose

    @Says("WHOSE. UNKNOWN; BAD: n, k; LATE: it can be nobody.")
    static void whoseOutside() {
        StripsOfFour x = Fairs.of("B0P5P5");
        due("person -1", x.whose(-1, 1, 0, true), UNKNOWN);
        due("person 2", x.whose(2, 1, 0, true), UNKNOWN);
        due("person 1", x.whose(1, 1, 0, true), 1);
        for (int far : Fairs.FAR) {
            due("person " + far, x.whose(far, 1, 0, true), UNKNOWN);
            due("n " + far, x.whose(0, far, 0, true), BAD);
            due("k " + far, x.whose(0, 8, far, false), BAD);
            due("n and k " + far, x.whose(0, far, far, false), BAD);
        }
    }

    @Says("one was on n LOOKS (1 .. 8)")
    static void whoseSmallestAndLargestN() {
        StripsOfFour x = Fairs.of("B0P5");
        due("n -1", x.whose(0, -1, 0, true), BAD);
        due("n 0", x.whose(0, 0, 0, true), BAD);
        whose(x, 0, 1, 0, 1, 1);
        whose(x, 0, 8, 8, 1, 1);
        due("n 9", x.whose(0, 9, 0, true), BAD);
    }

    @Says("and blinked on k of them (0 .. n)")
    static void whoseSmallestAndLargestK() {
        StripsOfFour x = Fairs.of("B0P5");
        for (int n = 1; n <= 8; n++) {
            due("k -1 of " + n, x.whose(0, n, -1, true), BAD);
            whose(x, 0, n, 0, 1, 1);
            whose(x, 0, n, n, 1, 1);
            due("k one more of " + n, x.whose(0, n, n + 1, true), BAD);
        }
    }

    @Says("LATE: it can be nobody.")
    static void whoseOfNobody() {
        StripsOfFour x = Fairs.of("B0P0P0P0P0P0");
        for (int n = 1; n <= 8; n++) {
            due("one blink of " + n, x.whose(0, n, 1, true), LATE);
            due("all blinks of " + n, x.whose(4, n, n, false), LATE);
            whose(x, 4, n, 0, 1, 5);
        }
        StripsOfFour y = Fairs.of("B0P0P9");
        due("another one can be", y.whose(0, 8, 8, true), 0);
    }

    @Says("each of all PEOPLE is as likely at first")
    static void whoseOfAllAlike() {
        for (int people = 1; people <= 5; people++) {
            StripsOfFour x = Fairs.of("B0" + "P3".repeat(people));
            whose(x, people - 1, 8, 4, 1, people);
        }
    }

    @Says("FRACTIONS are told above (upper = true), below, in least terms.")
    static void whoseInLeastTerms() {
        StripsOfFour x = Fairs.of("B0P0P9P1P5P2");
        // it can not be: nothing above, 1 below
        whose(x, 0, 1, 1, 0, 1);
        // one blink: 0, 9, 1, 5, 2 of 17
        whose(x, 1, 1, 1, 9, 17);
        // no blink: 10, 1, 9, 5, 8 of 33
        whose(x, 3, 1, 0, 5, 33);
        whose(x, 2, 1, 0, 3, 11);
        // eight blinks: 9 to the 8th, 1, 5 to the 8th, 2 to the 8th
        long all = 43046721L + 1 + 390625 + 256;
        whose(x, 2, 8, 8, 1, all);
        // no blink on eight: 10 to the 8th, 1, 9 to the 8th, 5 to the 8th, 8 to the 8th, all with 1 alone in common
        long open = 100000000L + 1 + 43046721 + 390625 + 16777216;
        whose(x, 1, 8, 0, 1, open);
        StripsOfFour alone = Fairs.of("B0P0P7");
        // it can be nobody else: 1 above, 1 below
        whose(alone, 1, 8, 8, 1, 1);
    }

    // ---- open

    @Says("OPEN. UNKNOWN; BAD: k.")
    static void openOutside() {
        StripsOfFour x = Fairs.of("B0S01P0");
        due("booth -1", x.open(-1, 0, true), UNKNOWN);
        due("booth 1", x.open(1, 0, true), UNKNOWN);
        for (int far : Fairs.FAR) {
            due("booth " + far, x.open(far, 0, true), UNKNOWN);
            due("k " + far, x.open(0, far, false), BAD);
        }
    }

    @Says("k (0 .. 5) or more do not blink, a FRACTION.")
    static void openSmallestAndLargestK() {
        StripsOfFour x = Fairs.of("B0S01P9P9P9P9P9");
        for (int person = 0; person < 4; person++) {
            x.enter(person, 0);
        }
        due("k -1", x.open(0, -1, true), BAD);
        open(x, 0, 0, 1, 1);
        // none of four: 9 to the 4th of 10000
        open(x, 0, 1, 10000 - 6561, 10000);
        // all of four
        open(x, 0, 4, 1, 10000);
        open(x, 0, 5, 0, 1);
        due("k 6", x.open(0, 6, true), BAD);
    }

    @Says("the chance that on a LOOK of all that are in a BOOTH now")
    static void openOfNobodyIn() {
        StripsOfFour x = Fairs.of("B0S01S01P3P3");
        x.enter(0, 1);
        open(x, 0, 0, 1, 1);
        for (int k = 1; k <= 5; k++) {
            open(x, 0, k, 0, 1);
        }
        open(x, 1, 1, 7, 10);
        x.leave(0);
        open(x, 1, 1, 0, 1);
    }

    @Says("on a LOOK of all that are in a BOOTH now")
    static void openOfEachPerson() {
        StripsOfFour x = Fairs.of("B0S01P1P3P7P9P3");
        int[] open = {9, 7, 3, 1, 7};
        for (int person = 0; person < 5; person++) {
            x.enter(person, 0);
            open(x, 0, 1, open[person], 10);
            x.leave(person);
        }
    }

    @Says("k (0 .. 5) or more do not blink")
    static void openOrMore() {
        StripsOfFour x = Fairs.of("B0S01P0P5P5");
        x.enter(1, 0);
        x.enter(2, 0);
        open(x, 0, 0, 1, 1);
        open(x, 0, 1, 3, 4);
        open(x, 0, 2, 1, 4);
        open(x, 0, 3, 0, 1);
        x.enter(0, 0);
        // one that never blinks
        open(x, 0, 1, 1, 1);
        open(x, 0, 2, 3, 4);
        open(x, 0, 3, 1, 4);
        open(x, 0, 4, 0, 1);
    }

    @Says("FRACTIONS are told above (upper = true), below, in least terms.")
    static void openInLeastTerms() {
        StripsOfFour x = Fairs.of("B0S01P3P7P9P1");
        for (int person = 0; person < 4; person++) {
            x.enter(person, 0);
        }
        // 7 * 3 * 1 * 9 of 10000
        open(x, 0, 4, 189, 10000);
        x.leave(1);
        x.leave(2);
        // 7 * 9 of 100; one blinks with 3 * 1 of 100
        open(x, 0, 2, 63, 100);
        open(x, 0, 1, 97, 100);
        StripsOfFour never = Fairs.of("B0S01P0P0");
        never.enter(0, 0);
        never.enter(1, 0);
        open(never, 0, 2, 1, 1);
        open(never, 0, 3, 0, 1);
    }

    // ---- keep, again

    @Says("It is kept: THE MINUTE. UNKNOWN.")
    static void keepOutside() {
        StripsOfFour x = Fairs.ofStrips(1);
        due("slot -1", x.keep(-1), UNKNOWN);
        due("slot 0", x.keep(0), 4);
        due("slot 1", x.keep(1), 4);
        due("slot 2", x.keep(2), UNKNOWN);
        for (int far : Fairs.FAR) {
            due("slot " + far, x.keep(far), UNKNOWN);
        }
    }

    @Says("It is as it was kept: THE MINUTE. UNKNOWN; LATE: none was kept.")
    static void againOutside() {
        StripsOfFour x = Fairs.ofStrips(1);
        due("slot 0, none kept", x.again(0), LATE);
        due("slot 1, none kept", x.again(1), LATE);
        due("slot -1", x.again(-1), UNKNOWN);
        due("slot 2", x.again(2), UNKNOWN);
        for (int far : Fairs.FAR) {
            due("slot " + far, x.again(far), UNKNOWN);
        }
        x.keep(1);
        due("slot 0, the other one kept", x.again(0), LATE);
        due("slot 1", x.again(1), 4);
        x.keep(0);
        due("slot 0", x.again(0), 4);
    }

    @Says("SLOTS 0 .. 1 keep all of it, THE SEED, too")
    static void againIsAsItWasKept() {
        StripsOfFour x = Fairs.ofEverything();
        String before = Fairs.view(x).replaceFirst("^((?:\\S+ ){7})\\S+ ", "$10 ");
        due("keep", x.keep(1), 5);
        x.enter(3, 1);
        x.leave(0);
        Fairs.minutes(x, 4);
        x.stuck();
        x.tear(0, 3);
        x.day();
        x.seed(4);
        due("again", x.again(1), 5);
        Sentences.same("as it was", Fairs.view(x), before);
        x.minute();
        due("and again", x.again(1), 5);
        Sentences.same("as it was once more", Fairs.view(x), before);
    }

    @Says("SLOTS 0 .. 1 keep all of it")
    static void keepOfAFullChuteAndTheLastPerson() {
        StripsOfFour x = Fairs.of("B0S01S01P0P0P0P0P0");
        x.enter(4, 1);
        Fairs.minutes(x, 32);
        x.tear(7, 2);
        x.leave(4);
        x.minute();
        x.enter(4, 0);
        String before = Fairs.stripView(x, 7);
        due("keep", x.keep(1), 33);
        x.day();
        x.stuck();
        x.leave(4);
        due("again", x.again(1), 33);
        Sentences.same("the eighth", Fairs.stripView(x, 7), before);
        due("in", x.person(4, 1), 0);
        due("left", x.person(4, 2), 1);
        due("left at", x.person(4, 3), 32);
    }

    @Says("SLOTS 0 .. 1 keep all of it")
    static void keepOfANewObject() {
        StripsOfFour x = new StripsOfFour();
        due("keep", x.keep(0), 0);
        x.day();
        x.minute();
        due("again", x.again(0), 0);
        due("day", x.about(4), 0);
        due("minute", x.about(3), 0);
    }

    @Says("SLOTS 0 .. 1 keep all of it")
    static void twoSlotsByThemselves() {
        StripsOfFour x = Fairs.ofStrips(0);
        x.keep(0);
        Fairs.minutes(x, 2);
        x.keep(1);
        Fairs.minutes(x, 2);
        due("the first", x.again(0), 0);
        due("its looks", x.booth(0, 3), 0);
        due("the second", x.again(1), 2);
        due("its looks", x.booth(0, 3), 2);
        Fairs.minutes(x, 3);
        due("kept over", x.keep(0), 5);
        x.again(1);
        due("what was kept over", x.again(0), 5);
        due("strips", x.about(5), 1);
    }

    @Says("It is as it was kept")
    static void againWithLessStrips() {
        StripsOfFour x = Fairs.ofStrips(0);
        x.keep(0);
        Fairs.minutes(x, 8);
        x.tear(0, 1);
        x.tear(1, 2);
        x.day();
        due("again", x.again(0), 0);
        due("strips", x.about(5), 0);
        due("torn", x.about(8), 0);
        due("eyes", x.eyes(0, 0), 0);
        due("between", x.between(0, 0), 5);
        Fairs.minutes(x, 4);
        due("a new one is not torn", x.strip(0, 1), 0);
        due("a new one is not faded", x.strip(0, 2), 0);
        due("torn", x.about(8), 0);
    }

    @Says("(no ACTS when one goes on)")
    static void againHasNoActs() {
        StripsOfFour x = Fairs.ofEverything();
        x.keep(1);
        due("keep leaves them", x.about(7), 12);
        due("and is none", x.undo(), 11);
        x.again(1);
        due("acts", x.about(7), 0);
        due("undo", x.undo(), LATE);
        x.day();
        due("one act", x.about(7), 1);
        due("undone", x.undo(), 0);
        due("undo of none", x.undo(), LATE);
        due("minute", x.about(3), 5);
    }

    @Says("SLOTS 0 .. 1 keep all of it, THE SEED, too")
    static void undoLeavesTheSlots() {
        StripsOfFour x = Fairs.ofStrips(0);
        x.minute();
        x.keep(0);
        x.undo();
        x.undo();
        due("nobody is in", x.booth(0, 2), 0);
        due("again", x.again(0), 1);
        due("who is in", x.booth(0, 2), 1);
        due("looks", x.booth(0, 3), 1);
    }

    @Says("THE SEED, too")
    static void againHasTheSeed() {
        StripsOfFour x = Fairs.of("B0S01P5");
        x.seed(Long.MAX_VALUE);
        x.enter(0, 0);
        x.keep(0);
        Fairs.minutes(x, 8);
        String first = Fairs.stripView(x, 0) + Fairs.stripView(x, 1);
        x.seed(1);
        x.again(0);
        due("seed", Fairs.seedOf(x), Long.MAX_VALUE);
        Fairs.minutes(x, 8);
        Sentences.same("the same blinks", Fairs.stripView(x, 0) + Fairs.stripView(x, 1), first);
    }

    @Says("LATE: none was kept.")
    static void whatIsKeptIsGoneByAFairAlone() {
        StripsOfFour x = Fairs.ofStrips(1);
        x.keep(0);
        x.wipe();
        due("a fair that is refused", x.fair(), LATE);
        due("still kept", x.again(0), 4);
        Fairs.tell(x, "B0");
        due("a fair", x.fair(), 0);
        due("gone", x.again(0), LATE);
        due("nobody has the hat", x.about(6), NONE);
    }
}
