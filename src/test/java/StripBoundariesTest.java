/** The boundary cases of what is asked about strips: promises 20 to 27. */
public final class StripBoundariesTest {
    private static final int BAD = Fairs.BAD, LATE = Fairs.LATE, NONE = Fairs.NONE, UNKNOWN = Fairs.UNKNOWN;

    public static void main(String[] args) {
        Sentences.runAll(StripBoundariesTest.class);
    }

    private static void due(String call, long got, long want) {
        Sentences.due(call, got, want);
    }

    /** One strip of one booth with these sets. */
    private static StripsOfFour ofSets(int... sets) {
        StripsOfFour x = Fairs.of("B0S01P0P0P0P0P0");
        for (int set : sets) {
            seat(x, 0, set);
            x.minute();
        }
        return x;
    }

    private static void seat(StripsOfFour x, int booth, int set) {
        for (int person = 0; person < 5; person++) {
            if ((x.booth(booth, 2) & ~set & 1 << person) != 0) {
                x.leave(person);
            }
        }
        for (int person = 0; person < 5; person++) {
            if ((set & ~x.booth(booth, 2) & 1 << person) != 0) {
                x.enter(person, booth);
            }
        }
    }

    // ---- found

    @Says("FOUND; NONE. UNKNOWN: strip; BAD: n, row")
    static void foundOutside() {
        StripsOfFour x = Fairs.ofStrips(2);
        due("strip -1", x.found(-1, 1, 1), UNKNOWN);
        due("strip 2", x.found(2, 1, 1), UNKNOWN);
        due("strip 1", x.found(1, 1, 1), 0);
        for (int far : Fairs.FAR) {
            due("strip " + far, x.found(far, 1, 1), UNKNOWN);
            due("n " + far, x.found(0, far, 1), BAD);
        }
    }

    @Says("FOUND: n sets (1 .. 4)")
    static void foundOfNoneToFive() {
        StripsOfFour x = Fairs.ofStrips(1);
        due("n -1", x.found(0, -1, 0), BAD);
        due("n 0", x.found(0, 0, 0), BAD);
        due("n 1", x.found(0, 1, 1), 0);
        due("n 2", x.found(0, 2, 101), 0);
        due("n 3", x.found(0, 3, 10101), 0);
        due("n 4", x.found(0, 4, 1010101), 0);
        due("n 5", x.found(0, 5, 101010101), BAD);
    }

    @Says("row (0 or more, 2 n figures at most, each two 31 at most).")
    static void foundRowBelowNothing() {
        StripsOfFour x = ofSets(1, 0, 0, 0);
        for (int n = 1; n <= 4; n++) {
            due("row -1 of " + n, x.found(0, n, -1), BAD);
            due("row smallest of " + n, x.found(0, n, Integer.MIN_VALUE), BAD);
        }
        due("row 0 of 1", x.found(0, 1, 0), 1);
        due("row 0 of 3", x.found(0, 3, 0), 1);
        due("row 0 of 4", x.found(0, 4, 0), NONE);
    }

    @Says("2 n figures at most")
    static void foundRowOfTooManyFigures() {
        StripsOfFour x = Fairs.ofStrips(1);
        int[] tooLong = {100, 10000, 1000000, 100000000};
        int[] largest = {31, 3131, 313131, 31313131};
        for (int n = 1; n <= 4; n++) {
            due("largest of " + n, x.found(0, n, largest[n - 1]), NONE);
            due("too long of " + n, x.found(0, n, tooLong[n - 1]), BAD);
            due("too long of " + n + ", with fair sets behind", x.found(0, n, tooLong[n - 1] + 1), BAD);
            due("as an int goes, of " + n, x.found(0, n, Integer.MAX_VALUE), BAD);
        }
        due("of 1 with the figures of 2", x.found(0, 1, 101), BAD);
        due("of 3 with the figures of 4", x.found(0, 3, 1010101), BAD);
    }

    @Says("each two figures (00 .. 31)")
    static void foundRowOfTooLargeSets() {
        StripsOfFour x = Fairs.ofStrips(1);
        int[] places = {1, 100, 10000, 1000000};
        for (int n = 1; n <= 4; n++) {
            for (int i = 0; i < n; i++) {
                due("31 at " + i + " of " + n, x.found(0, n, 31 * places[i]), NONE);
                due("32 at " + i + " of " + n, x.found(0, n, 32 * places[i]), BAD);
                due("99 at " + i + " of " + n, x.found(0, n, 99 * places[i]), BAD);
            }
        }
    }

    @Says("the first one first")
    static void foundTheFirstSetFirst() {
        StripsOfFour x = ofSets(1, 2, 3, 4);
        due("1 2", x.found(0, 2, 102), 0);
        due("2 1", x.found(0, 2, 201), NONE);
        due("3 4", x.found(0, 2, 304), 2);
        due("2 3 4", x.found(0, 3, 20304), 1);
        due("4 3 2 1", x.found(0, 4, 4030201), NONE);
    }

    @Says("the first LOOK (0 .. 3) of a STRIP from which on n of its LOOKS show just these")
    static void foundAtTheFirstAndTheLastLook() {
        StripsOfFour x = ofSets(1, 3, 1, 2);
        due("at the first one, though a later one shows it", x.found(0, 1, 1), 0);
        due("at the last one", x.found(0, 1, 2), 3);
        due("not over its end", x.found(0, 2, 200), NONE);
        due("just these: not less", x.found(0, 2, 302), NONE);
        due("just these: not more", x.found(0, 1, 7), NONE);
        due("from 1 on", x.found(0, 2, 301), 1);
        StripsOfFour y = ofSets(1, 1, 2, 2);
        due("what looks like it begins earlier", y.found(0, 2, 102), 1);
    }

    @Says("it does not go over where that is TORN; NONE.")
    static void foundNotOverWhereItIsTorn() {
        // rows: torn behind 1, 2, 3; columns: n 1 to 4
        int[][] first = {{0, 1, 1, NONE}, {0, 0, NONE, NONE}, {0, 0, 0, NONE}};
        int[] rows = {1, 101, 10101, 1010101};
        for (int k = 1; k <= 3; k++) {
            StripsOfFour x = Fairs.ofStrips(2);
            x.tear(0, k);
            for (int n = 1; n <= 4; n++) {
                due("torn behind " + k + ", n " + n, x.found(0, n, rows[n - 1]), first[k - 1][n - 1]);
                due("the other one is not torn, n " + n, x.found(1, n, rows[n - 1]), 0);
            }
        }
        StripsOfFour y = ofSets(1, 2, 3, 4);
        y.tear(0, 2);
        due("right before", y.found(0, 2, 102), 0);
        due("over it", y.found(0, 2, 203), NONE);
        due("right behind", y.found(0, 2, 304), 2);
    }

    // ---- together

    @Says("in how many ways all (1). BAD.")
    static void togetherOutside() {
        StripsOfFour x = Fairs.ofStrips(1);
        due("what -1", x.together(-1), BAD);
        due("what 2", x.together(2), BAD);
        for (int far : Fairs.FAR) {
            due("what " + far, x.together(far), BAD);
        }
    }

    @Says("in how many ways all can (1, if there are none)")
    static void togetherOfNone() {
        StripsOfFour x = new StripsOfFour();
        due("no strips, at most", x.together(0), 0);
        due("no strips, ways", x.together(1), 1);
        StripsOfFour y = Fairs.ofStrips(8);
        due("none torn, at most", y.together(0), 0);
        due("none torn, ways", y.together(1), 1);
    }

    @Says("An upper one and a lower one go together, if they have four LOOKS together")
    static void togetherOfFourLooks() {
        StripsOfFour x = Fairs.ofStrips(3);
        x.tear(0, 1);
        due("one by itself", x.together(0), 1);
        due("one by itself, ways", x.together(1), 1);
        x.tear(1, 3);
        x.tear(2, 2);
        due("three lengths", x.together(0), 3);
        due("three lengths, ways", x.together(1), 1);
        StripsOfFour y = Fairs.ofStrips(4);
        y.tear(0, 1);
        y.tear(1, 1);
        y.tear(2, 3);
        y.tear(3, 3);
        due("two of each length", y.together(0), 4);
        due("two of each length, ways", y.together(1), 4);
    }

    @Says("if THE HAT is not on one head at the end of the upper one and on another head at the beginning of the lower one.")
    static void togetherByTheHat() {
        int[][] due = {{1, 0, 1}, {0, 1, 1}, {1, 1, 1}};
        String[] heads = {"0", "1", "9"};
        for (int upper = 0; upper < 3; upper++) {
            for (int lower = 0; lower < 3; lower++) {
                StripsOfFour x = Fairs.ofHats("2" + heads[upper] + heads[lower] + "2");
                x.tear(0, 2);
                String what = heads[upper] + " above, " + heads[lower] + " below";
                due(what + ", at most", x.together(0), due[upper][lower]);
                due(what + ", ways", x.together(1), due[upper][lower]);
            }
        }
    }

    @Says("at the end of the upper one and on another head at the beginning of the lower one.")
    static void togetherByTheLooksWhereItIsTorn() {
        for (int k = 1; k <= 3; k++) {
            // the hat changes heads behind look k alone
            StripsOfFour change = Fairs.ofHats("0000".substring(0, k) + "1111".substring(k));
            for (int torn = 1; torn <= 3; torn++) {
                change.tear(0, torn);
                due("changes behind " + k + ", torn behind " + torn, change.together(0), torn == k ? 0 : 1);
                change.undo();
            }
        }
    }

    @Says("How many upper ones can be put together with lower ones at most (each with one)")
    static void togetherAtMost() {
        // two uppers that end with 0, lowers that begin with 1 and with nobody
        StripsOfFour x = Fairs.ofHats("2011" + "2099");
        x.tear(0, 2);
        x.tear(1, 2);
        due("both want the one lower", x.together(0), 1);
        due("not all", x.together(1), 0);
        // the first upper fits both lowers, the second one the first lower alone
        StripsOfFour y = Fairs.ofHats("2900" + "2011");
        y.tear(0, 2);
        y.tear(1, 2);
        due("the first gives way", y.together(0), 2);
        due("one way", y.together(1), 1);
    }

    @Says("in how many ways all can")
    static void togetherOfEight() {
        StripsOfFour x = Fairs.ofStrips(8);
        for (int i = 0; i < 8; i++) {
            x.tear(i, 2);
        }
        due("at most", x.together(0), 8);
        due("ways", x.together(1), 40320);
        StripsOfFour y = Fairs.ofStrips(8);
        for (int i = 0; i < 8; i++) {
            y.tear(i, 1 + i % 3);
        }
        // 3, 3 and 2 of a length
        due("of three lengths, at most", y.together(0), 8);
        due("of three lengths, ways", y.together(1), 72);
    }

    @Says("How many upper ones can be put together with lower ones at most")
    static void togetherAskedInAnyOrder() {
        StripsOfFour x = Fairs.ofHats("2011" + "2011");
        x.tear(0, 2);
        x.tear(1, 2);
        for (int i = 0; i < 2; i++) {
            due("ways", x.together(1), 0);
            due("at most", x.together(0), 0);
        }
        x.undo();
        x.tear(1, 3);
        due("ways, torn elsewhere", x.together(1), 0);
        due("at most, torn elsewhere", x.together(0), 1);
        x.undo();
        due("ways, one torn", x.together(1), 0);
        due("at most, one torn", x.together(0), 0);
        x.undo();
        due("ways, none torn", x.together(1), 1);
        due("at most, none torn", x.together(0), 0);
    }

    // ---- orders

    @Says("ORDERS: how many. LATE: there are more than 6.")
    static void ordersOfNoneToEight() {
        int[] ways = {1, 1, 2, 6, 24, 120, 720, LATE, LATE};
        for (int strips = 0; strips <= 8; strips++) {
            due("of " + strips, Fairs.ofStrips(strips).orders(), ways[strips]);
        }
    }

    @Says("(asked where there are 6 at most)")
    static void ordersOfSixWithOneBegun() {
        StripsOfFour x = Fairs.ofStrips(6);
        Fairs.minutes(x, 3);
        due("six, one begun", x.orders(), 720);
        x.minute();
        due("seven", x.orders(), LATE);
        x.undo();
        due("six again", x.orders(), 720);
    }

    @Says("in which whoever has THE HAT on the last LOOK of one has it on the first LOOK of the next one, or nobody has it on one of both")
    static void ordersByTheHat() {
        String[] heads = {"0", "1", "9"};
        for (int last = 0; last < 3; last++) {
            for (int first = 0; first < 3; first++) {
                // strip 1 before strip 0 never holds: 2 at its end, 1 at the beginning
                StripsOfFour x = Fairs.ofHats("122" + heads[last] + heads[first] + "002");
                int holds = last == first || last == 2 || first == 2 ? 1 : 0;
                due(heads[last] + " then " + heads[first], x.orders(), holds);
                due("place of 0", x.orderAt(0), holds);
                due("place of 1", x.orderAt(1), 2 * holds);
            }
        }
    }

    @Says("ORDERS: rows of all STRIPS")
    static void ordersNoneHolds() {
        StripsOfFour x = Fairs.ofHats("0111" + "0222" + "0111");
        due("how many", x.orders(), 0);
        due("places", x.orderAt(1), 0);
    }

    @Says("At which places a STRIP may be, as bits. UNKNOWN; LATE.")
    static void orderAtOutside() {
        StripsOfFour x = Fairs.ofStrips(6);
        due("strip -1", x.orderAt(-1), UNKNOWN);
        due("strip 0", x.orderAt(0), 63);
        due("strip 5", x.orderAt(5), 63);
        due("strip 6", x.orderAt(6), UNKNOWN);
        for (int far : Fairs.FAR) {
            due("strip " + far, x.orderAt(far), UNKNOWN);
        }
        due("of none", Fairs.ofStrips(0).orderAt(0), UNKNOWN);
        due("of one", Fairs.ofStrips(1).orderAt(0), 1);
        due("of seven", Fairs.ofStrips(7).orderAt(0), LATE);
        due("of eight", Fairs.ofStrips(8).orderAt(7), LATE);
    }

    @Says("at which places (bits) a STRIP may be in these.")
    static void orderAtTheFirstAndTheLastPlace() {
        // a chain: 0 ends with 1, 1 begins with 1 and ends with 2, 2 begins with 2; and nothing goes before 0
        StripsOfFour x = Fairs.ofHats("0001" + "1002" + "2001");
        // 0 1 2 holds, and 2 1 does as well (1 then 1), but 0 can be first alone
        due("how many", x.orders(), 1);
        due("first", x.orderAt(0), 1);
        due("between", x.orderAt(1), 2);
        due("last", x.orderAt(2), 4);
    }

    @Says("ORDERS: rows of all STRIPS")
    static void ordersAskedAgainOfOtherStrips() {
        StripsOfFour x = Fairs.ofHats("0001" + "1000");
        due("0 1 and 1 0", x.orders(), 2);
        x.undo();
        x.hat(2);
        x.minute();
        due("1 0 does not hold any more", x.orders(), 1);
        due("first", x.orderAt(0), 1);
        due("last", x.orderAt(1), 2);
        x.stuck();
        due("they changed places", x.orders(), 1);
        due("the first one is last", x.orderAt(0), 2);
        x.undo();
        x.undo();
        due("one alone", x.orders(), 1);
    }

    // ---- forgery

    /** WALK 3; booth 0 has one strip of person 0 at 10, 12, 14, 16, booth 1 flashes each minute and has none. */
    private static StripsOfFour ofOneWalker(int walk) {
        StripsOfFour x = Fairs.of("B" + walk + "S02S01P0P0P0P0P0");
        Fairs.minutes(x, 10);
        x.enter(0, 0);
        Fairs.minutes(x, 7);
        due("its last look", x.look(0, 3, 0), 16);
        return x;
    }

    @Says("A FORGERY; NONE. UNKNOWN: booth; BAD: m, row (as above, of four).")
    static void forgeryOutside() {
        StripsOfFour x = Fairs.of("B0S01S01P0");
        due("booth -1", x.forgery(-1, 0, 0), UNKNOWN);
        due("booth 2", x.forgery(2, 0, 0), UNKNOWN);
        due("row -1", x.forgery(0, 0, -1), BAD);
        due("row of nine figures", x.forgery(0, 0, 100000000), BAD);
        due("row of nine figures, fair behind", x.forgery(0, 0, 101010101), BAD);
        due("row of the largest", x.forgery(0, 0, 31313131), NONE);
        for (int place : new int[] {1, 100, 10000, 1000000}) {
            due("32", x.forgery(0, 0, 32 * place), BAD);
        }
        for (int far : Fairs.FAR) {
            due("booth " + far, x.forgery(far, 0, 0), UNKNOWN);
            due("m " + far, x.forgery(0, far, 0), BAD);
        }
        due("row smallest", x.forgery(0, 0, Integer.MIN_VALUE), BAD);
        due("row as an int goes", x.forgery(0, 0, Integer.MAX_VALUE), BAD);
        due("where there is one booth", Fairs.of("B0S01").forgery(1, 0, 0), UNKNOWN);
    }

    @Says("a told STRIP of a BOOTH whose first LOOK is at MINUTE m (0 .. 999), then flash by flash")
    static void forgeryAtTheFirstAndTheLastMinute() {
        StripsOfFour x = Fairs.of("B0S09S11P0");
        due("m -1", x.forgery(0, -1, 0), BAD);
        due("m 0", x.forgery(0, 0, 0), NONE);
        due("m 999, its later looks go over it", x.forgery(0, 999, 1010101), NONE);
        due("m 1000", x.forgery(0, 1000, 0), BAD);
        due("m 1008", x.forgery(0, 1008, 0), BAD);
        due("m 999 of the other", x.forgery(1, 999, 0), NONE);
    }

    @Says("the first of its LOOKS (0 .. 3) that can not be: its MINUTE is none of that BOOTH")
    static void forgeryAtAMinuteOfNone() {
        StripsOfFour x = Fairs.of("B0S74P0");
        for (int m = 0; m < 24; m++) {
            due("m " + m, x.forgery(0, m, 0), m >= 7 && (m - 7) % 4 == 0 ? NONE : 0);
        }
        due("m 3, by 4 before its first", x.forgery(0, 3, 1010101), 0);
    }

    @Says("or a LOOK of that BOOTH at that MINUTE on a STRIP shows another set")
    static void forgeryOfAnotherSetAtEachLook() {
        StripsOfFour x = ofSets(1, 2, 3, 0);
        due("as it is", x.forgery(0, 0, 1020300), NONE);
        due("0", x.forgery(0, 0, 20300), 0);
        due("1", x.forgery(0, 0, 1000300), 1);
        due("2", x.forgery(0, 0, 1020200), 2);
        due("3", x.forgery(0, 0, 1020301), 3);
        due("the first of several", x.forgery(0, 0, 1031516), 1);
        due("from its last look on", x.forgery(0, 3, 313131), NONE);
        due("from its last look on, another", x.forgery(0, 3, 4313131), 0);
        due("behind it", x.forgery(0, 4, 31313131), NONE);
    }

    @Says("or a LOOK of that BOOTH at that MINUTE on a STRIP")
    static void forgeryByTheStripsInTheChute() {
        StripsOfFour x = ofSets(1, 2, 3, 4, 5, 6, 7);
        due("the begun one does not count", x.forgery(0, 4, 0), NONE);
        x.tear(0, 2);
        due("a torn one does", x.forgery(0, 2, 3040000), NONE);
        due("a torn one does", x.forgery(0, 2, 3050000), 1);
        x.minute();
        due("when it fell", x.forgery(0, 4, 5060707), NONE);
        due("when it fell, another", x.forgery(0, 4, 5060607), 2);
    }

    @Says("or one of its set is on a LOOK (of a STRIP) of the other BOOTH at that MINUTE")
    static void forgeryOfOneThatIsInTheOther() {
        StripsOfFour x = ofOneWalker(0);
        for (int i = 0; i < 4; i++) {
            int[] places = {1000000, 10000, 100, 1};
            due("at look " + i, x.forgery(1, 10 - i, places[i]), i);
            due("with others at look " + i, x.forgery(1, 10 - i, 31 * places[i]), i);
            due("others at look " + i, x.forgery(1, 10 - i, 30 * places[i]), NONE);
        }
        due("between its looks", x.forgery(1, 11, 1000000), NONE);
        due("before and behind", x.forgery(1, 17, 1010101), NONE);
        due("nobody", x.forgery(1, 10, 0), NONE);
    }

    @Says("or less than WALK MINUTES from it; NONE: it can be.")
    static void forgeryByTheWalk() {
        for (int walk = 0; walk <= 9; walk++) {
            StripsOfFour x = ofOneWalker(walk);
            int near = Math.max(1, walk);
            for (int m = 0; m < 27; m++) {
                boolean tooNear = false;
                for (int look = 10; look <= 16; look += 2) {
                    tooNear |= Math.abs(m - look) < near;
                }
                due("walk " + walk + " at " + m, x.forgery(1, m, 1000000), tooNear ? 0 : NONE);
            }
        }
    }

    @Says("of the other BOOTH at that MINUTE, or less than WALK MINUTES from it")
    static void forgeryByTheOtherBoothAlone() {
        StripsOfFour x = ofOneWalker(9);
        due("a walk is none within one booth", x.forgery(0, 18, 1010101), NONE);
        due("before it, in the same booth", x.forgery(0, 2, 1010101), NONE);
        StripsOfFour y = Fairs.of("B9S01P0");
        y.enter(0, 0);
        Fairs.minutes(y, 4);
        due("where there is no other one", y.forgery(0, 4, 1010101), NONE);
    }

    @Says("or less than WALK MINUTES from it")
    static void forgeryOfBooth1ByBooth0AndTheOtherWay() {
        StripsOfFour x = Fairs.of("B2S01S01P0");
        x.enter(0, 1);
        Fairs.minutes(x, 4);
        due("of booth 0 at 3", x.forgery(0, 3, 1010101), 0);
        due("at 4: one minute from it", x.forgery(0, 4, 1010101), 0);
        due("at 5: two minutes from it", x.forgery(0, 5, 1010101), NONE);
    }

    @Says("or one of its set is on a LOOK (of a STRIP) of the other BOOTH at that MINUTE, or less than WALK MINUTES from it")
    static void forgeryOfSeveralLooksThatAreNear() {
        StripsOfFour x = Fairs.of("B4S01S01P0P0P0P0P0");
        for (int person = 0; person < 4; person++) {
            seat(x, 0, 1 << person);
            x.minute();
        }
        // 0 at 0, 1 at 1, 2 at 2, 3 at 3: from 4 on, four minutes from each in turn
        for (int m = 0; m < 9; m++) {
            for (int person = 0; person < 5; person++) {
                boolean near = person < 4 && Math.abs(m - person) < 4;
                due("person " + person + " at " + m, x.forgery(1, m, (1 << person) * 1000000), near ? 0 : NONE);
                due("between of it", x.between(person, m) >> 1 & 1, near ? 0 : 1);
            }
        }
    }

    @Says("or a LOOK of that BOOTH at that MINUTE on a STRIP shows another set")
    static void forgeryByTheEighthStrip() {
        StripsOfFour x = Fairs.ofStrips(8);
        due("as it is", x.forgery(0, 28, 1010101), NONE);
        due("another set on the last look", x.forgery(0, 28, 1010102), 3);
        due("between, without it", x.between(1, 31), 4);
        StripsOfFour y = Fairs.of("B2S01S01P0");
        y.enter(0, 0);
        Fairs.minutes(y, 32);
        due("in the other at the last look", y.forgery(1, 31, 1000000), 0);
        due("less than a walk from it", y.forgery(1, 32, 1000000), 0);
        due("a walk from it", y.forgery(1, 33, 1000000), NONE);
        due("between", y.between(0, 31), 1);
    }

    // ---- toSit

    @Says("TO SIT. UNKNOWN: booth; BAD: row (as above, of four; four PEOPLE in each at most, that there are).")
    static void toSitOutside() {
        StripsOfFour x = Fairs.of("B0S01P0P0P0P0P0");
        due("booth -1", x.toSit(-1, 0), UNKNOWN);
        due("booth 1", x.toSit(1, 0), UNKNOWN);
        due("row -1", x.toSit(0, -1), BAD);
        due("row 0", x.toSit(0, 0), 0);
        due("row of nine figures", x.toSit(0, 100000000), BAD);
        for (int place : new int[] {1, 100, 10000, 1000000}) {
            due("32", x.toSit(0, 32 * place), BAD);
        }
        for (int far : Fairs.FAR) {
            due("booth " + far, x.toSit(far, 0), UNKNOWN);
        }
        due("row smallest", x.toSit(0, Integer.MIN_VALUE), BAD);
        due("row as an int goes", x.toSit(0, Integer.MAX_VALUE), BAD);
    }

    @Says("four PEOPLE in each at most")
    static void toSitOfFourAndFive() {
        StripsOfFour x = Fairs.of("B0S01P0P0P0P0P0");
        for (int place : new int[] {1, 100, 10000, 1000000}) {
            due("five", x.toSit(0, 31 * place), BAD);
        }
        for (int out = 0; out < 5; out++) {
            int four = 31 & ~(1 << out);
            due("four: " + four, x.toSit(0, four * 1010101), 4);
        }
    }

    @Says("four PEOPLE in each at most, that there are")
    static void toSitOfPeopleThatThereAreNone() {
        for (int people = 0; people <= 4; people++) {
            StripsOfFour x = Fairs.of("B0S01" + "P0".repeat(people));
            int all = (1 << people) - 1;
            due("of " + people + " all", x.toSit(0, all * 1010101), people);
            for (int place : new int[] {1, 100, 10000, 1000000}) {
                due("of " + people + " one too many", x.toSit(0, (1 << people) * place), BAD);
            }
        }
    }

    @Says("from who is in it now on")
    static void toSitFromThoseThatAreIn() {
        StripsOfFour x = Fairs.of("B9S01S99P0P0P0P0P0");
        for (int person = 0; person < 4; person++) {
            x.enter(person, 0);
        }
        due("as it is", x.toSit(0, 15151515), 0);
        due("all out", x.toSit(0, 0), 4);
        due("one for another in a full booth", x.toSit(0, 30303030), 2);
        due("out, in, out, in", x.toSit(0, 150015), 4 + 4 + 4 + 4);
        due("stay, out, in, out", x.toSit(0, 15001500), 4 + 4 + 4);
        due("of the other booth: walks, other booths do not count", x.toSit(1, 15151515), 4);
    }

    @Says("(WALKS, other BOOTHS do not count)")
    static void toSitOfOneInTheOtherBooth() {
        StripsOfFour x = Fairs.of("B9S01S01P0P0");
        x.enter(0, 1);
        due("it is in the other: one step", x.toSit(0, 1010101), 1);
        due("out of that one", x.toSit(1, 0), 1);
        x.leave(0);
        due("it comes too soon", x.enter(0, 0), LATE);
        due("no walk counts", x.toSit(0, 1010101), 1);
    }

    @Says("how often somebody must step IN or OUT of a BOOTH at least")
    static void toSitAtMost() {
        StripsOfFour x = Fairs.of("B0S01P0P0P0P0P0");
        due("in, out, in, out", x.toSit(0, 15001500), 16);
        due("at the last flash alone", x.toSit(0, 1), 1);
        due("at the first flash alone", x.toSit(0, 1000000), 2);
    }

    // ---- between

    @Says("BETWEEN, as bits. UNKNOWN; BAD: m (0 .. 999).")
    static void betweenOutside() {
        StripsOfFour x = Fairs.of("B0S01S01P0");
        due("person -1", x.between(-1, 0), UNKNOWN);
        due("person 1", x.between(1, 0), UNKNOWN);
        due("m -1", x.between(0, -1), BAD);
        due("m 0", x.between(0, 0), 7);
        due("m 999", x.between(0, 999), 7);
        due("m 1000", x.between(0, 1000), BAD);
        for (int far : Fairs.FAR) {
            due("person " + far, x.between(far, 0), UNKNOWN);
            due("m " + far, x.between(0, far), BAD);
        }
    }

    @Says("bits 0, 1: a BOOTH")
    static void betweenOfNoneAndOneBooth() {
        due("no booth", Fairs.of("B0P0").between(0, 5), 4);
        due("one booth", Fairs.of("B0S01P0").between(0, 5), 5);
        due("two booths", Fairs.of("B0S01S01P0").between(0, 5), 7);
    }

    @Says("BETWEEN: where a PERSON can have been at MINUTE m, by the LOOKS of STRIPS alone")
    static void betweenOfEachPerson() {
        StripsOfFour none = Fairs.of("B0S01S01P0P0P0P0P0");
        for (int person = 0; person < 5; person++) {
            due("no strips, person " + person, none.between(person, 0), 7);
            StripsOfFour x = Fairs.of("B1S01S01P0P0P0P0P0");
            x.enter(person, 1);
            Fairs.minutes(x, 4);
            for (int other = 0; other < 5; other++) {
                due("on it " + person + ", asked " + other, x.between(other, 2), other == person ? 2 : 1 + 4);
                due("behind it", x.between(other, 4), 7);
            }
        }
    }

    @Says("if there is no LOOK of that BOOTH at that MINUTE without it")
    static void betweenWithoutIt() {
        StripsOfFour x = ofOneWalker(0);
        for (int m = 8; m <= 18; m++) {
            boolean look = m >= 10 && m <= 16 && m % 2 == 0;
            due("another one at " + m, x.between(4, m), look ? 6 : 7);
        }
    }

    @Says("and it is on no LOOK of the other BOOTH at that MINUTE, or less than WALK MINUTES from it")
    static void betweenByTheWalk() {
        for (int walk = 0; walk <= 9; walk++) {
            StripsOfFour x = ofOneWalker(walk);
            int near = Math.max(1, walk);
            for (int m = 0; m < 27; m++) {
                boolean tooNear = false;
                for (int look = 10; look <= 16; look += 2) {
                    tooNear |= Math.abs(m - look) < near;
                }
                boolean look = m >= 10 && m <= 16 && m % 2 == 0;
                due("walk " + walk + " at " + m, x.between(0, m), 1 | (tooNear ? 0 : 2) | (look ? 0 : 4));
            }
        }
    }

    @Says("bit 2: nowhere, if it is on no LOOK at that MINUTE.")
    static void betweenNowhere() {
        StripsOfFour x = Fairs.of("B0S01S01P0P0");
        x.enter(0, 0);
        x.enter(1, 1);
        Fairs.minutes(x, 5);
        due("on a look of booth 0", x.between(0, 3), 1);
        due("on a look of booth 1", x.between(1, 3), 2);
        due("on looks of begun ones alone", x.between(0, 4), 7);
        x.leave(1);
        Fairs.minutes(x, 3);
        due("on no look of both", x.between(1, 5), 4);
        due("on a look of booth 1, its first", x.between(1, 4), 2);
    }

    // ---- most

    @Says("MOST. UNKNOWN; BAD: m.")
    static void mostOutside() {
        StripsOfFour x = Fairs.of("B0S01P0");
        due("booth -1", x.most(-1, 0), UNKNOWN);
        due("booth 1", x.most(1, 0), UNKNOWN);
        due("m -1", x.most(0, -1), BAD);
        due("m 0", x.most(0, 0), 0);
        due("m 999", x.most(0, 999), 250);
        due("m 1000", x.most(0, 1000), BAD);
        for (int far : Fairs.FAR) {
            due("booth " + far, x.most(far, 0), UNKNOWN);
            due("m " + far, x.most(0, far), BAD);
        }
    }

    @Says("how many STRIPS of a BOOTH can be ended by MINUTES up to m (m too; 0 .. 999)")
    static void mostUpToM() {
        StripsOfFour x = Fairs.of("B0S53S99P0");
        int[][] due = {{4, 0}, {5, 0}, {13, 0}, {14, 1}, {15, 1}, {25, 1}, {26, 2}, {37, 2}, {38, 3}};
        for (int[] each : due) {
            due("up to " + each[0], x.most(0, each[0]), each[1]);
        }
        due("rarest, up to 35", x.most(1, 35), 0);
        due("rarest, up to 36", x.most(1, 36), 1);
        // 9, 18, .., 999: 111 flashes
        due("rarest, up to 999", x.most(1, 999), 27);
    }

    @Says("if it takes a LOOK at each flash from THE MINUTE on")
    static void mostFromTheMinuteOn() {
        StripsOfFour x = Fairs.of("B0S02P0");
        Fairs.minutes(x, 2);
        due("the flash of now counts: 2, 4, 6, 8", x.most(0, 8), 1);
        due("up to 7", x.most(0, 7), 0);
        x.minute();
        due("it is over: 4, 6, 8, 10", x.most(0, 9), 0);
        due("up to 10", x.most(0, 10), 1);
        due("before now", x.most(0, 2), 0);
        due("at 0", x.most(0, 0), 0);
        due("nobody is in", x.booth(0, 2), 0);
    }

    @Says("(the one that is begun counts; THE CHUTE is never full)")
    static void mostWithOneBegun() {
        StripsOfFour x = Fairs.of("B0S01S01P0");
        x.enter(0, 0);
        for (int begun = 0; begun < 4; begun++) {
            due("begun " + begun, x.most(0, 3), 1);
            due("begun " + begun + ", up to 2", x.most(0, 2), 0);
            due("the other has none begun", x.most(1, 3), begun == 0 ? 1 : 0);
            x.minute();
        }
        due("when it fell", x.most(0, 3), 0);
        due("when it fell, up to 7", x.most(0, 7), 1);
    }

    @Says("THE CHUTE is never full)")
    static void mostWithAFullChute() {
        StripsOfFour x = Fairs.ofStrips(8);
        due("up to 34", x.most(0, 34), 0);
        due("up to 35", x.most(0, 35), 1);
        due("up to 999", x.most(0, 999), (1000 - 32) / 4);
        StripsOfFour y = Fairs.of("B0S01S01P0P0");
        y.enter(0, 0);
        Fairs.minutes(y, 28);
        y.enter(1, 1);
        Fairs.minutes(y, 6);
        due("full, with three looks begun", y.booth(1, 3), 3);
        due("the next flash ends it", y.most(1, 34), 1);
        due("before the next flash", y.most(1, 33), 0);
    }
}
