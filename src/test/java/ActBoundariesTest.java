import java.math.BigInteger;
import java.util.ArrayList;
import java.util.List;

/** The boundary cases of what can be asked of booths, people, strips, looks, and of ACTS: promises 7 to 19. */
public final class ActBoundariesTest {
    private static final int BAD = Fairs.BAD, LATE = Fairs.LATE, FULL = Fairs.FULL, NONE = Fairs.NONE, UNKNOWN = Fairs.UNKNOWN;

    public static void main(String[] args) {
        Sentences.runAll(ActBoundariesTest.class);
    }

    private static void due(String call, long got, long want) {
        Sentences.due(call, got, want);
    }

    // ---- booth

    @Says("the next MINUTE at which it flashes, from THE MINUTE on (4). UNKNOWN; BAD.")
    static void boothOutside() {
        StripsOfFour x = Fairs.of("B0S01S12P0");
        due("booth(-1, 0)", x.booth(-1, 0), UNKNOWN);
        due("booth(2, 0)", x.booth(2, 0), UNKNOWN);
        due("booth(1, 0)", x.booth(1, 0), 1);
        due("what -1", x.booth(0, -1), BAD);
        due("what 5", x.booth(1, 5), BAD);
        for (int far : Fairs.FAR) {
            due("booth " + far, x.booth(far, 0), UNKNOWN);
            due("what " + far, x.booth(0, far), BAD);
        }
        due("where there is one, booth 1", Fairs.of("B0S01").booth(1, 0), UNKNOWN);
        due("where there is none, booth 0", Fairs.of("B0P1").booth(0, 0), UNKNOWN);
    }

    @Says("the next MINUTE at which it flashes, from THE MINUTE on (4)")
    static void nextFlashBeforeAtAndBehind() {
        StripsOfFour x = Fairs.of("B0S99S01");
        for (int minute = 0; minute <= 28; minute++) {
            int next = minute <= 9 ? 9 : minute <= 18 ? 18 : minute <= 27 ? 27 : 36;
            due("every 9 at minute " + minute, x.booth(0, 4), next);
            due("every 1 at minute " + minute, x.booth(1, 4), minute);
            x.minute();
        }
    }

    @Says("who is in (2: bits)")
    static void whoIsInOfNobodyAndFour() {
        StripsOfFour x = Fairs.of("B0S01S01P0P0P0P0P0");
        due("nobody", x.booth(0, 2), 0);
        for (int person = 1; person < 5; person++) {
            x.enter(person, 0);
        }
        due("four", x.booth(0, 2), 30);
        due("the other", x.booth(1, 2), 0);
    }

    @Says("LOOKS of the STRIP that is begun (3)")
    static void begunLooksWrapAround() {
        StripsOfFour x = Fairs.of("B0S01P0");
        due("none", x.booth(0, 3), 0);
        x.enter(0, 0);
        for (int i = 1; i <= 9; i++) {
            x.minute();
            due("behind look " + i, x.booth(0, 3), i % 4);
        }
    }

    // ---- person

    @Says("at which MINUTE (3; NONE). UNKNOWN; BAD.")
    static void personOutside() {
        StripsOfFour x = Fairs.of("B0S01P0P3");
        due("person(-1, 0)", x.person(-1, 0), UNKNOWN);
        due("person(2, 0)", x.person(2, 0), UNKNOWN);
        due("person(1, 0)", x.person(1, 0), 3);
        due("what -1", x.person(0, -1), BAD);
        due("what 4", x.person(0, 4), BAD);
        for (int far : Fairs.FAR) {
            due("person " + far, x.person(far, 0), UNKNOWN);
            due("what " + far, x.person(0, far), BAD);
        }
        due("where there is nobody", Fairs.of("B0S01").person(0, 0), UNKNOWN);
    }

    @Says("in which BOOTH it is (1; NONE)")
    static void personInNone() {
        StripsOfFour x = Fairs.of("B0S01S01P0");
        due("in none", x.person(0, 1), NONE);
        x.enter(0, 0);
        due("in 0", x.person(0, 1), 0);
        x.leave(0);
        due("in none again", x.person(0, 1), NONE);
    }

    @Says("which it left last (2; NONE), at which MINUTE (3; NONE)")
    static void personThatLeftNone() {
        StripsOfFour x = Fairs.of("B0S01S01P0");
        due("left none", x.person(0, 2), NONE);
        due("left never", x.person(0, 3), NONE);
        x.enter(0, 0);
        due("left none while in", x.person(0, 2), NONE);
        x.leave(0);
        due("left 0", x.person(0, 2), 0);
        due("at minute 0", x.person(0, 3), 0);
        x.minute();
        x.enter(0, 1);
        due("left 0 while in the other", x.person(0, 2), 0);
        x.leave(0);
        due("left 1 last", x.person(0, 2), 1);
        due("at minute 1", x.person(0, 3), 1);
    }

    // ---- strip, look

    @Says("all that are on it (3: bits). UNKNOWN; BAD.")
    static void stripOutside() {
        StripsOfFour x = Fairs.ofStrips(2);
        due("strip(-1, 0)", x.strip(-1, 0), UNKNOWN);
        due("strip(1, 0)", x.strip(1, 0), 0);
        due("strip(2, 0)", x.strip(2, 0), UNKNOWN);
        due("what -1", x.strip(0, -1), BAD);
        due("what 4", x.strip(0, 4), BAD);
        for (int far : Fairs.FAR) {
            due("strip " + far, x.strip(far, 0), UNKNOWN);
            due("what " + far, x.strip(0, far), BAD);
        }
        StripsOfFour full = Fairs.ofStrips(8);
        due("of a full chute strip(7, 3)", full.strip(7, 3), 1);
        due("of a full chute strip(8, 3)", full.strip(8, 3), UNKNOWN);
    }

    @Says("STRIPS are those in THE CHUTE, 0 the first one.")
    static void aBegunStripIsUnknown() {
        StripsOfFour x = Fairs.ofStrips(0);
        Fairs.minutes(x, 3);
        due("strip", x.strip(0, 0), UNKNOWN);
        due("look", x.look(0, 0, 0), UNKNOWN);
        due("tear", x.tear(0, 1), UNKNOWN);
        due("found", x.found(0, 1, 1), UNKNOWN);
        due("orderAt", x.orderAt(0), UNKNOWN);
        due("orders of none", x.orders(), 1);
        x.minute();
        due("when it fell", x.strip(0, 0), 0);
    }

    @Says("behind which LOOK it is TORN (1; 0: it is not)")
    static void stripThatIsNotTorn() {
        StripsOfFour x = Fairs.ofStrips(2);
        due("not torn", x.strip(0, 1), 0);
        x.tear(1, 1);
        due("another one is", x.strip(0, 1), 0);
        due("that one", x.strip(1, 1), 1);
    }

    @Says("all that are on it (3: bits)")
    static void allOnAStripOfOneLookAndOfFive() {
        StripsOfFour x = Fairs.of("B0S01P0P0P0P0P0");
        x.enter(3, 0);
        x.minute();
        x.leave(3);
        Fairs.minutes(x, 3);
        due("one, on its first look alone", x.strip(0, 3), 8);
        for (int person = 0; person < 4; person++) {
            x.enter(person, 0);
        }
        Fairs.minutes(x, 3);
        x.leave(0);
        x.enter(4, 0);
        x.minute();
        due("five, the last one on its last look alone", x.strip(1, 3), 31);
    }

    @Says("UNKNOWN: strip; BAD: look (0 .. 3), what.")
    static void lookOutside() {
        StripsOfFour x = Fairs.ofStrips(1);
        due("strip -1", x.look(-1, 0, 0), UNKNOWN);
        due("strip 1", x.look(1, 0, 0), UNKNOWN);
        due("look -1", x.look(0, -1, 0), BAD);
        due("look 0", x.look(0, 0, 0), 0);
        due("look 3", x.look(0, 3, 0), 3);
        due("look 4", x.look(0, 4, 0), BAD);
        due("what -1", x.look(0, 0, -1), BAD);
        due("what 3", x.look(0, 0, 3), 0);
        due("what 4", x.look(0, 0, 4), BAD);
        // one that would be inside, if look and what were one number
        due("look -1, what 4", x.look(0, -1, 4), BAD);
        due("look 4, what -4", x.look(0, 4, -4), BAD);
        for (int far : Fairs.FAR) {
            due("strip " + far, x.look(far, 0, 0), UNKNOWN);
            due("look " + far, x.look(0, far, 0), BAD);
            due("what " + far, x.look(0, 0, far), BAD);
        }
        due("of a full chute look(7, 3, 0)", Fairs.ofStrips(8).look(7, 3, 0), 31);
    }

    @Says("who has THE HAT (2; NONE)")
    static void lookWithoutTheHat() {
        StripsOfFour x = Fairs.ofHats("9092");
        due("nobody", x.look(0, 0, 2), NONE);
        due("0", x.look(0, 1, 2), 0);
        due("nobody again", x.look(0, 2, 2), NONE);
        due("2", x.look(0, 3, 2), 2);
    }

    // ---- seed

    @Says("THE SEED is v: what it was.")
    static void seedSmallestAndLargest() {
        StripsOfFour x = new StripsOfFour();
        due("at first", x.seed(Long.MIN_VALUE), 0);
        due("smallest", x.seed(Long.MAX_VALUE), Long.MIN_VALUE);
        due("largest", x.seed(-1), Long.MAX_VALUE);
        due("-1", x.seed(0), -1);
        due("it is no act", x.about(7), 0);
    }

    // ---- enter

    @Says("UNKNOWN: person, booth; LATE: it is in one, or comes too soon")
    static void enterOutside() {
        StripsOfFour x = Fairs.of("B0S01P0P0");
        due("person -1", x.enter(-1, 0), UNKNOWN);
        due("person 2", x.enter(2, 0), UNKNOWN);
        due("booth -1", x.enter(0, -1), UNKNOWN);
        due("booth 1", x.enter(0, 1), UNKNOWN);
        for (int far : Fairs.FAR) {
            due("person " + far, x.enter(far, 0), UNKNOWN);
            due("booth " + far, x.enter(0, far), UNKNOWN);
        }
        due("no act", x.about(7), 0);
        due("the last person", x.enter(1, 0), 1);
    }

    @Says("A PERSON steps IN to a BOOTH, if it is in none")
    static void enterWhileIn() {
        StripsOfFour x = Fairs.of("B0S01S01P0P0");
        x.enter(0, 0);
        due("the same one", x.enter(0, 0), LATE);
        due("the other one", x.enter(0, 1), LATE);
        due("who is in", x.booth(0, 2), 1);
        due("who is in the other", x.booth(1, 2), 0);
        due("acts", x.about(7), 1);
    }

    @Says("if it left the other one WALK MINUTES ago or more")
    static void enterJustSoonEnough() {
        for (int walk = 0; walk <= 9; walk++) {
            StripsOfFour x = Fairs.of("B" + walk + "S01S01P0");
            Fairs.minutes(x, 2);
            x.enter(0, 0);
            Fairs.minutes(x, 1);
            x.leave(0);
            for (int ago = 0; ago < walk; ago++) {
                due("walk " + walk + ", left " + ago + " ago", x.enter(0, 1), LATE);
                x.minute();
            }
            due("walk " + walk + ", left as long ago", x.enter(0, 1), 1);
        }
    }

    @Says("(or was never there; what it left last counts)")
    static void enterOneThatWasNeverThere() {
        StripsOfFour x = Fairs.of("B9S01S01P0P0");
        due("at minute 0", x.enter(0, 1), 1);
        due("another one", x.enter(1, 0), 1);
        x.leave(0);
        due("back into the same one at once", x.enter(0, 1), 1);
    }

    @Says("what it left last counts)")
    static void enterByWhatItLeftLast() {
        StripsOfFour x = Fairs.of("B2S01S01P0");
        x.enter(0, 0);
        x.leave(0);
        Fairs.minutes(x, 2);
        x.enter(0, 1);
        x.leave(0);
        due("left 0 long ago, 1 just now: to 0", x.enter(0, 0), LATE);
        due("to 1", x.enter(0, 1), 1);
        Fairs.minutes(x, 2);
        due("in it", x.enter(0, 0), LATE);
        x.leave(0);
        Fairs.minutes(x, 1);
        due("from when it left last, not first", x.enter(0, 0), LATE);
        Fairs.minutes(x, 1);
        due("two minutes ago", x.enter(0, 0), 1);
    }

    @Says("and if there are less than four in it.")
    static void enterTheFourthAndTheFifth() {
        StripsOfFour x = Fairs.of("B0S01S01P0P0P0P0P0");
        for (int person = 0; person < 4; person++) {
            due("in", x.enter(person, 0), person + 1);
        }
        due("the fifth", x.enter(4, 0), FULL);
        due("into the other", x.enter(4, 1), 1);
        x.leave(4);
        due("the fifth again", x.enter(4, 0), FULL);
        x.leave(2);
        due("when one is out", x.enter(4, 0), 4);
        due("who is in", x.booth(0, 2), 27);
    }

    @Says("IN: how many are in it then.")
    static void enterEachBoothByItself() {
        StripsOfFour x = Fairs.of("B0S01S01P0P0P0P0P0");
        due("the first", x.enter(0, 0), 1);
        due("the first of the other", x.enter(1, 1), 1);
        due("the second", x.enter(2, 0), 2);
        due("the second of the other", x.enter(3, 1), 2);
    }

    @Says("FULL: there are four.")
    static void enterAFullBoothAgainAndAgain() {
        StripsOfFour x = Fairs.of("B0S01P0P0P0P0P0");
        for (int person = 4; person > 0; person--) {
            x.enter(person, 0);
        }
        due("four are in", x.enter(0, 0), FULL);
        x.minute();
        due("four are in a minute later", x.enter(0, 0), FULL);
        x.day();
        due("four are in a day later", x.enter(0, 0), FULL);
        x.undo();
        x.undo();
        x.undo();
        due("when the fourth is undone", x.enter(0, 0), 4);
    }

    // ---- leave

    @Says("OUT: how many are left in it. UNKNOWN; LATE: it is in none.")
    static void leaveOutside() {
        StripsOfFour x = Fairs.of("B0S01S01P0P0");
        due("in none", x.leave(0), LATE);
        due("person -1", x.leave(-1), UNKNOWN);
        due("person 2", x.leave(2), UNKNOWN);
        for (int far : Fairs.FAR) {
            due("person " + far, x.leave(far), UNKNOWN);
        }
        due("no act", x.about(7), 0);
        x.enter(0, 1);
        x.enter(1, 1);
        due("one is left", x.leave(0), 1);
        due("out already", x.leave(0), LATE);
        due("nobody is left", x.leave(1), 0);
    }

    @Says("It steps OUT; if it has THE HAT, nobody has it then.")
    static void leaveWithTheHat() {
        StripsOfFour x = Fairs.of("B0S01S01P0P0P0");
        x.enter(0, 0);
        x.enter(1, 0);
        x.enter(2, 1);
        x.hat(0);
        x.leave(1);
        due("another one steps out", x.about(6), 0);
        x.leave(2);
        due("one of the other booth steps out", x.about(6), 0);
        x.leave(0);
        due("the one that has it", x.about(6), NONE);
        x.enter(0, 0);
        due("in again without it", x.about(6), NONE);
    }

    // ---- hat

    @Says("UNKNOWN; LATE: it is in no BOOTH, or has it, or one that is not in that BOOTH has it.")
    static void hatOutside() {
        StripsOfFour x = Fairs.of("B0S01S01P0P0");
        due("person -1", x.hat(-1), UNKNOWN);
        due("person 2", x.hat(2), UNKNOWN);
        for (int far : Fairs.FAR) {
            due("person " + far, x.hat(far), UNKNOWN);
        }
    }

    @Says("LATE: it is in no BOOTH")
    static void hatOfOneInNoBooth() {
        StripsOfFour x = Fairs.of("B0S01P0P0");
        due("nobody has it", x.hat(0), LATE);
        x.enter(1, 0);
        x.hat(1);
        due("another one has it", x.hat(0), LATE);
        due("who has it", x.about(6), 1);
        due("acts", x.about(7), 2);
    }

    @Says("or has it, or one that is not in that BOOTH has it.")
    static void hatOfOneThatHasIt() {
        StripsOfFour x = Fairs.of("B0S01P0");
        x.enter(0, 0);
        due("nobody had it", x.hat(0), NONE);
        due("it has it", x.hat(0), LATE);
        due("acts", x.about(7), 2);
    }

    @Says("or one that is not in that BOOTH has it.")
    static void hatOfAnotherBooth() {
        StripsOfFour x = Fairs.of("B0S01S01P0P0");
        x.enter(0, 0);
        x.enter(1, 1);
        x.hat(0);
        due("from the other booth", x.hat(1), LATE);
        due("who has it", x.about(6), 0);
        x.leave(0);
        due("when nobody has it", x.hat(1), NONE);
        x.enter(0, 0);
        due("and the other way", x.hat(0), LATE);
    }

    @Says("It takes THE HAT: who had it; NONE.")
    static void hatFromAnotherOne() {
        StripsOfFour x = Fairs.of("B0S01P0P0");
        x.enter(0, 0);
        x.enter(1, 0);
        due("from nobody", x.hat(0), NONE);
        due("from 0", x.hat(1), 0);
        due("from 1", x.hat(0), 1);
    }

    @Says("One that is in a BOOTH takes THE HAT, if nobody has it, or from another one in that BOOTH.")
    static void hatOfTheFirstAndTheLastPerson() {
        StripsOfFour x = Fairs.of("B0S01S01P0P0P0P0P0");
        x.enter(4, 1);
        x.enter(0, 1);
        due("the last one", x.hat(4), NONE);
        due("the first one", x.hat(0), 4);
        due("the last one again", x.hat(4), 0);
        x.undo();
        due("undone", x.about(6), 0);
    }

    // ---- minute

    @Says("A MINUTE: how many STRIPS fell into THE CHUTE.")
    static void minuteOfNoneOneTwo() {
        StripsOfFour x = Fairs.of("B0S01S31P0P0");
        x.enter(0, 0);
        x.enter(1, 1);
        int[] fell = {0, 0, 0, 1, 0, 0, 1, 1};
        for (int i = 0; i < fell.length; i++) {
            due("minute " + i, x.minute(), fell[i]);
        }
        StripsOfFour y = Fairs.of("B0S01S01P0P0");
        y.enter(0, 0);
        y.enter(1, 1);
        Fairs.minutes(y, 3);
        due("two at once", y.minute(), 2);
        due("the first one is of booth 0", y.strip(0, 0), 0);
        due("the last one is of booth 1", y.strip(1, 0), 1);
    }

    @Says("if THE MINUTE is one of its MINUTES")
    static void minuteBeforeTheFirst() {
        StripsOfFour x = Fairs.of("B0S95P0");
        x.enter(0, 0);
        for (int minute = 0; minute < 24; minute++) {
            x.minute();
            int looks = minute < 9 ? 0 : minute < 14 ? 1 : minute < 19 ? 2 : minute < 24 ? 3 : 4;
            due("looks behind minute " + minute, x.booth(0, 3), looks);
        }
        due("the fourth", x.minute(), 1);
        for (int look = 0; look < 4; look++) {
            due("its minute", x.look(0, look, 0), 9 + 5 * look);
        }
    }

    @Says("if there are less than 8 STRIPS in THE CHUTE then")
    static void minuteWithSevenAndWithEight() {
        StripsOfFour x = Fairs.ofStrips(7);
        x.seed(5);
        Fairs.minutes(x, 3);
        due("the eighth falls", x.minute(), 1);
        due("strips", x.about(5), 8);
        long seed = Fairs.seedOf(x);
        for (int i = 0; i < 5; i++) {
            due("none falls", x.minute(), 0);
        }
        due("no look is taken", x.booth(0, 3), 0);
        due("no eye is drawn", x.seed(0), seed);
        due("strips", x.about(5), 8);
        due("the minute goes on", x.about(3), 37);
        due("the last one", x.look(7, 3, 0), 31);
    }

    @Says("if there are less than 8 STRIPS in THE CHUTE then")
    static void minuteInWhichTheEighthFalls() {
        StripsOfFour x = Fairs.of("B0S01S01P5P5");
        x.enter(0, 0);
        Fairs.minutes(x, 28);
        x.enter(1, 1);
        Fairs.minutes(x, 3);
        due("strips before", x.about(5), 7);
        x.seed(1);
        due("booth 0 lets the eighth fall", x.minute(), 1);
        due("booth 1 takes no look behind it", x.booth(1, 3), 3);
        due("one draw alone", x.seed(0), 6364136223846793005L + 1442695040888963407L);
        x.undo();
        due("undone, booth 1", x.booth(1, 3), 3);
        x.leave(0);
        due("the eighth is of booth 0, begun, with nobody", x.minute(), 1);
        due("of booth 0", x.strip(7, 0), 0);
        due("nobody on its last look", x.look(7, 3, 1), 0);
    }

    @Says("and somebody is in it or a STRIP of it is begun")
    static void minuteOfAnEmptyBooth() {
        StripsOfFour x = Fairs.of("B0S01S01P0P0");
        x.enter(1, 1);
        x.minute();
        due("nobody in, nothing begun", x.booth(0, 3), 0);
        due("the other one", x.booth(1, 3), 1);
        x.enter(0, 0);
        x.minute();
        x.leave(0);
        x.leave(1);
        x.minute();
        due("nobody in, begun", x.booth(0, 3), 2);
        due("nobody in, begun", x.booth(1, 3), 3);
        due("ended with nobody", x.minute(), 1);
        due("ended with nobody", x.minute(), 1);
        Fairs.minutes(x, 4);
        due("none is begun with nobody", x.booth(0, 3) + x.booth(1, 3), 0);
        due("strips", x.about(5), 2);
    }

    @Says("who is in (perhaps nobody)")
    static void minuteWithNobodyIn() {
        StripsOfFour x = Fairs.of("B0S01P9");
        x.enter(0, 0);
        x.minute();
        x.leave(0);
        long seed = Fairs.seedOf(x);
        Fairs.minutes(x, 3);
        for (int look = 1; look < 4; look++) {
            due("who", x.look(0, look, 1), 0);
            due("hat", x.look(0, look, 2), NONE);
            due("blinks", x.look(0, look, 3), 0);
        }
        due("nothing is drawn", x.seed(0), seed);
    }

    @Says("who of these has THE HAT")
    static void minuteWithTheHatInTheOtherBooth() {
        StripsOfFour x = Fairs.of("B0S01S01P0P0");
        x.enter(0, 0);
        x.enter(1, 1);
        x.hat(1);
        Fairs.minutes(x, 4);
        for (int look = 0; look < 4; look++) {
            due("booth 0", x.look(0, look, 2), NONE);
            due("booth 1", x.look(1, look, 2), 1);
        }
    }

    @Says("x (THE SEED, a long; 0 at first) becomes x times 6364136223846793005 and 1442695040888963407 (64 bits, wrapping)")
    static void drawsWrapAround() {
        BigInteger times = new BigInteger("6364136223846793005");
        BigInteger more = new BigInteger("1442695040888963407");
        long[] seeds = {0, 1, -1, Long.MAX_VALUE, Long.MIN_VALUE, Long.MIN_VALUE + 1, 1L << 62, 2};
        for (long seed : seeds) {
            StripsOfFour x = Fairs.of("B0S01P5");
            x.seed(seed);
            x.enter(0, 0);
            BigInteger v = BigInteger.valueOf(seed);
            for (int i = 0; i < 6; i++) {
                x.minute();
                v = v.multiply(times).add(more);
                due("from " + seed + ", draw " + i, Fairs.seedOf(x), v.longValue());
            }
        }
    }

    @Says("it blinks, if of its upper 31 bits what is left by 10 is less than e.")
    static void blinksByWhatIsLeft() {
        BigInteger all = BigInteger.ONE.shiftLeft(64);
        boolean[] atTenths = new boolean[10];
        boolean[] oneLess = new boolean[10];
        boolean ofNegative = false;
        for (int e = 0; e <= 9; e++) {
            StripsOfFour x = Fairs.of("B0S01P" + e);
            x.seed(2026);
            x.enter(0, 0);
            Fairs.minutes(x, 32);
            long v = 2026;
            for (int i = 0; i < 32; i++) {
                v = v * 6364136223846793005L + 1442695040888963407L;
                BigInteger unsigned = BigInteger.valueOf(v).mod(all);
                int left = unsigned.shiftRight(33).mod(BigInteger.TEN).intValue();
                atTenths[e] |= left == e;
                oneLess[e] |= left == e - 1;
                ofNegative |= v < 0;
                due("tenths " + e + ", left " + left, x.look(i / 4, i % 4, 3), left < e ? 1 : 0);
            }
        }
        for (int e = 0; e <= 9; e++) {
            Sentences.holds("a draw of just " + e, atTenths[e]);
            Sentences.holds("a draw of one less than " + e, e == 0 || oneLess[e]);
        }
        Sentences.holds("a draw of an x below 0", ofNegative);
    }

    @Says("who of these blinks: for each, by number")
    static void drawsByNumberOfAllThatAreIn() {
        StripsOfFour x = Fairs.of("B0S01S01P0P9P5P0P9");
        x.seed(12345);
        for (int person : new int[] {4, 2, 0, 1}) {
            x.enter(person, 1);
        }
        x.enter(3, 0);
        Fairs.minutes(x, 4);
        int[] tenths = {0, 9, 5, 0, 9};
        long v = 12345;
        for (int look = 0; look < 4; look++) {
            int[] blinks = {0, 0};
            for (int person : new int[] {3, 0, 1, 2, 4}) {
                v = v * 6364136223846793005L + 1442695040888963407L;
                blinks[person == 3 ? 0 : 1] |= (v >>> 33) % 10 < tenths[person] ? 1 << person : 0;
            }
            due("booth 0", x.look(0, look, 3), blinks[0]);
            due("booth 1", x.look(1, look, 3), blinks[1]);
        }
        due("drawn for those with no tenths, too", x.seed(0), v);
    }

    @Says("By the fourth LOOK the STRIP falls into THE CHUTE, as its last one.")
    static void theFourthLookLetsItFall() {
        StripsOfFour x = Fairs.of("B0S13S01P0P0");
        x.enter(0, 0);
        x.enter(1, 1);
        Fairs.minutes(x, 10);
        due("three looks", x.booth(0, 3), 3);
        due("strips", x.about(5), 2);
        due("the fourth", x.minute(), 1);
        due("it is the last one", x.strip(2, 0), 0);
        due("none is begun", x.booth(0, 3), 0);
        due("not torn", x.strip(2, 1), 0);
        due("not faded", x.strip(2, 2), 0);
    }

    @Says("Then THE MINUTE is one more.")
    static void theMinuteIsOneMore() {
        StripsOfFour x = new StripsOfFour();
        due("without booths", x.minute(), 0);
        due("minute", x.about(3), 1);
        due("an act", x.about(7), 1);
    }

    // ---- stuck

    @Says("LATE: there are less than two.")
    static void stuckOfNoneOneTwo() {
        due("none", Fairs.ofStrips(0).stuck(), LATE);
        StripsOfFour one = Fairs.ofStrips(1);
        Fairs.minutes(one, 3);
        int acts = one.about(7);
        due("one, and one begun", one.stuck(), LATE);
        due("acts", one.about(7), acts);
        one.minute();
        due("two", one.stuck(), 0);
    }

    @Says("STUCK: the last two STRIPS in THE CHUTE change places.")
    static void stuckOfTheLastTwo() {
        StripsOfFour x = Fairs.of("B0S01S01P0P0");
        x.enter(0, 0);
        Fairs.minutes(x, 24);
        x.enter(1, 1);
        x.leave(0);
        Fairs.minutes(x, 4);
        x.tear(6, 3);
        String[] before = new String[7];
        for (int i = 0; i < 7; i++) {
            before[i] = Fairs.stripView(x, i);
        }
        due("of which the last one is then", x.stuck(), 0);
        for (int i = 0; i < 5; i++) {
            Sentences.same("strip " + i, Fairs.stripView(x, i), before[i]);
        }
        Sentences.same("the last but one", Fairs.stripView(x, 5), before[6]);
        Sentences.same("the last one", Fairs.stripView(x, 6), before[5]);
        due("of which the last one is then", x.stuck(), 1);
        Sentences.same("back again", Fairs.stripView(x, 6), before[6]);
    }

    @Says("STUCK: the last two STRIPS in THE CHUTE change places.")
    static void stuckInAFullChute() {
        StripsOfFour x = Fairs.of("B0S01S01P0P0");
        x.enter(0, 0);
        Fairs.minutes(x, 28);
        x.leave(0);
        x.enter(1, 1);
        Fairs.minutes(x, 4);
        String last = Fairs.stripView(x, 7);
        String before = Fairs.stripView(x, 6);
        due("of which the last one is then", x.stuck(), 0);
        Sentences.same("the last one", Fairs.stripView(x, 7), before);
        Sentences.same("the one before", Fairs.stripView(x, 6), last);
    }

    // ---- tear

    @Says("TORN: how many are TORN. UNKNOWN; BAD: k; LATE: it is TORN.")
    static void tearOutside() {
        StripsOfFour x = Fairs.ofStrips(2);
        due("strip -1", x.tear(-1, 1), UNKNOWN);
        due("strip 2", x.tear(2, 1), UNKNOWN);
        for (int far : Fairs.FAR) {
            due("strip " + far, x.tear(far, 1), UNKNOWN);
            due("k " + far, x.tear(0, far), BAD);
        }
        due("torn", x.about(8), 0);
    }

    @Says("a STRIP in THE CHUTE behind its k-th LOOK (1 .. 3; once at most)")
    static void tearSmallestAndLargest() {
        StripsOfFour x = Fairs.ofStrips(3);
        due("k -1", x.tear(0, -1), BAD);
        due("k 0", x.tear(0, 0), BAD);
        due("k 4", x.tear(0, 4), BAD);
        due("k 1", x.tear(0, 1), 1);
        due("k 2", x.tear(1, 2), 2);
        due("k 3", x.tear(2, 3), 3);
        due("behind", x.strip(0, 1), 1);
        due("behind", x.strip(2, 1), 3);
    }

    @Says("(1 .. 3; once at most)")
    static void tearOnce() {
        StripsOfFour x = Fairs.ofStrips(2);
        x.tear(0, 2);
        int acts = x.about(7);
        for (int k = 1; k <= 3; k++) {
            due("again, behind " + k, x.tear(0, k), LATE);
        }
        due("where it is", x.strip(0, 1), 2);
        due("acts", x.about(7), acts);
        due("another one", x.tear(1, 2), 2);
        x.undo();
        x.undo();
        due("when it is undone", x.tear(0, 3), 1);
    }

    // ---- day

    @Says("A DAY goes by: THE DAY is one more")
    static void manyDays() {
        StripsOfFour x = new StripsOfFour();
        for (int day = 1; day <= 400; day++) {
            due("day", x.day(), day);
        }
        due("about", x.about(4), 400);
        x.undo();
        due("undone", x.about(4), 399);
    }

    @Says("each STRIP in THE CHUTE fades by 1 (9 at most).")
    static void fadedNineAtMost() {
        StripsOfFour x = Fairs.ofStrips(8);
        for (int day = 1; day <= 11; day++) {
            due("day", x.day(), day);
            for (int strip = 0; strip < 8; strip++) {
                due("strip " + strip + " on day " + day, x.strip(strip, 2), Math.min(9, day));
            }
        }
    }

    @Says("each STRIP in THE CHUTE fades")
    static void aBegunStripDoesNotFade() {
        StripsOfFour x = Fairs.ofStrips(0);
        due("without strips", x.day(), 1);
        Fairs.minutes(x, 3);
        x.day();
        x.minute();
        due("it fell behind that day", x.strip(0, 2), 0);
        x.day();
        due("and fades then", x.strip(0, 2), 1);
    }

    @Says("(THE MINUTE goes on as it is.)")
    static void aDayLeavesTheMinute() {
        StripsOfFour x = Fairs.ofStrips(0);
        Fairs.minutes(x, 2);
        x.day();
        due("minute", x.about(3), 2);
        due("looks", x.booth(0, 3), 2);
        due("who is in", x.booth(0, 2), 1);
        due("day", x.about(4), 1);
    }

    // ---- undo

    @Says("The last ACT is undone: how many are left. LATE: there is none.")
    static void undoOfNone() {
        StripsOfFour x = new StripsOfFour();
        due("of a new one", x.undo(), LATE);
        x.day();
        due("of one", x.undo(), 0);
        due("of none again", x.undo(), LATE);
        due("day", x.about(4), 0);
    }

    @Says("ACTS (IN, OUT, HATS, MINUTES, STUCK, TORN, DAYS) are a row")
    static void undoOfEachAct() {
        String before = Fairs.view(Fairs.ofEverything());
        for (int act = 0; act < 7; act++) {
            StripsOfFour x = Fairs.ofEverything();
            Sentences.holds("act " + act + " is not refused", actOf(x, act) >= 0);
            Sentences.holds("act " + act + " changes it", !Fairs.view(x).equals(before));
            // the row was full before, so the first one is forgotten
            due("undo", x.undo(), 11);
            Sentences.same("act " + act + " undone", withoutActs(Fairs.view(x)), withoutActs(before));
        }
    }

    private static int actOf(StripsOfFour x, int act) {
        switch (act) {
            case 0: return x.enter(3, 0);
            case 1: return x.leave(1);
            case 2: return x.hat(0);
            case 3: return x.minute();
            case 4: return x.stuck();
            case 5: return x.tear(0, 1);
            default: return x.day();
        }
    }

    /** The view but for its eighth number. */
    private static String withoutActs(String view) {
        return view.replaceFirst("^((?:\\S+ ){7})\\S+ ", "$1");
    }

    @Says("(12 at most; when it is full, the first one is forgotten)")
    static void twelveActsAtMost() {
        for (int acts = 11; acts <= 14; acts++) {
            StripsOfFour x = new StripsOfFour();
            for (int i = 0; i < acts; i++) {
                x.day();
            }
            due(acts + " acts", x.about(7), Math.min(12, acts));
            for (int left = Math.min(12, acts) - 1; left >= 0; left--) {
                due("undo", x.undo(), left);
            }
            due("undo of none", x.undo(), LATE);
            due("days that are forgotten", x.about(4), Math.max(0, acts - 12));
        }
    }

    @Says("when it is full, the first one is forgotten); the last one can be undone")
    static void theRowGoesAroundManyTimes() {
        StripsOfFour x = Fairs.of("B1S01P3");
        List<String> views = new ArrayList<>();
        x.seed(8);
        x.enter(0, 0);
        int[] steps = {14, -3, 9, -12, 5, -1, 13, -12};
        for (int step : steps) {
            for (int i = 0; i < step; i++) {
                views.add(shortView(x));
                due("minute", Math.min(0, x.minute()), 0);
            }
            for (int i = 0; i > step; i--) {
                x.undo();
                Sentences.same("undone", shortView(x), views.remove(views.size() - 1));
            }
        }
    }

    private static String shortView(StripsOfFour x) {
        return x.about(3) + " " + x.about(5) + " " + x.booth(0, 3) + " " + Fairs.seedOf(x);
    }

    @Says("the last one can be undone (THE SEED as well)")
    static void undoOfTheSeed() {
        StripsOfFour x = Fairs.of("B0S01P5");
        x.seed(31);
        x.enter(0, 0);
        x.minute();
        Sentences.holds("drawn", Fairs.seedOf(x) != 31);
        x.undo();
        due("as it was", Fairs.seedOf(x), 31);
        x.minute();
        x.seed(99);
        x.undo();
        due("as it was before the act", x.seed(0), 31);
    }

    @Says("the last one can be undone")
    static void undoOfAStripThatFell() {
        StripsOfFour x = Fairs.of("B0S01S01P5P5");
        x.enter(0, 0);
        x.enter(1, 1);
        x.hat(1);
        Fairs.minutes(x, 3);
        String before = Fairs.view(x);
        due("two fall", x.minute(), 2);
        String behind = Fairs.view(x);
        x.undo();
        Sentences.same("begun again", Fairs.view(x), before);
        due("two fall again", x.minute(), 2);
        Sentences.same("by the same draws", Fairs.view(x), behind);
    }

    @Says("the last one can be undone")
    static void undoOfTheLastPerson() {
        StripsOfFour x = Fairs.of("B0S01S01P0P0P0P0P0");
        x.enter(4, 1);
        x.minute();
        x.leave(4);
        due("left", x.person(4, 2), 1);
        x.undo();
        due("in again", x.person(4, 1), 1);
        due("left none", x.person(4, 2), NONE);
        due("left never", x.person(4, 3), NONE);
        x.undo();
        x.undo();
        due("in none", x.person(4, 1), NONE);
    }

    @Says("the last one can be undone")
    static void undoWithAFullChute() {
        StripsOfFour x = Fairs.of("B0S01S01P0P0");
        x.enter(0, 0);
        Fairs.minutes(x, 28);
        x.leave(0);
        x.enter(1, 1);
        Fairs.minutes(x, 4);
        String before = Fairs.stripView(x, 7);
        x.tear(7, 3);
        x.undo();
        Sentences.same("the eighth, not torn", Fairs.stripView(x, 7), before);
        x.day();
        x.undo();
        Sentences.same("the eighth, not faded", Fairs.stripView(x, 7), before);
        due("stuck", x.stuck(), 0);
        x.undo();
        Sentences.same("the eighth, in its place", Fairs.stripView(x, 7), before);
        x.undo();
        due("seven", x.about(5), 7);
        due("the eighth is none", x.strip(7, 0), UNKNOWN);
        due("it falls again", x.minute(), 1);
        Sentences.same("the eighth again", Fairs.stripView(x, 7), before);
    }

    @Says("the last one can be undone")
    static void undoneStripsAreNone() {
        StripsOfFour x = Fairs.of("B3S01S01P0P0");
        x.enter(0, 0);
        Fairs.minutes(x, 4);
        x.tear(0, 2);
        due("torn", x.about(8), 1);
        x.undo();
        x.tear(0, 1);
        x.day();
        // the day, the tear and the minute by which it fell
        Fairs.minutes(x, 1);
        for (int i = 0; i < 4; i++) {
            x.undo();
        }
        due("strips", x.about(5), 0);
        due("torn", x.about(8), 0);
        due("eyes", x.eyes(0, 0), 0);
        due("forgery of its own booth", x.forgery(0, 0, 0), NONE);
        due("forgery of the other booth", x.forgery(1, 0, 1010101), NONE);
        due("between", x.between(0, 1), 7);
        due("together, at most", x.together(0), 0);
        due("together, ways", x.together(1), 1);
        due("orders", x.orders(), 1);
        due("orderAt", x.orderAt(0), UNKNOWN);
        due("found", x.found(0, 1, 1), UNKNOWN);
        due("it falls again", x.minute(), 1);
        due("not torn", x.strip(0, 1), 0);
        due("not faded", x.strip(0, 2), 0);
    }

    @Says("ACTS (IN, OUT, HATS, MINUTES, STUCK, TORN, DAYS) are a row")
    static void whatIsNoAct() {
        StripsOfFour x = Fairs.ofStrips(1);
        x.undo();
        x.minute();
        int acts = x.about(7);
        x.write('x');
        x.wipe();
        x.fault();
        x.fair();
        x.enter(0, 0);
        x.seed(1);
        x.keep(0);
        due("acts before", acts, 5);
        due("fair refused, since the text is empty; enter refused", x.about(7), 5);
        x.leave(5);
        x.hat(4);
        x.tear(3, 1);
        x.stuck();
        due("what is refused is none", x.about(7), 5);
    }
}
