import java.util.ArrayList;
import java.util.List;
import java.util.function.Supplier;
import java.util.function.ToLongFunction;

/** Section 4 of the document: which refusal is told, and that what is refused, or only asked, changes nothing. */
public final class RefusalsTest {
    private static final int BAD = Fairs.BAD, LATE = Fairs.LATE, FULL = Fairs.FULL, NONE = Fairs.NONE, UNKNOWN = Fairs.UNKNOWN;

    private record Call(String name, ToLongFunction<StripsOfFour> made, long want) { }

    public static void main(String[] args) {
        Sentences.runAll(RefusalsTest.class);
    }

    private static void due(String call, long got, long want) {
        Sentences.due(call, got, want);
    }

    /** One object with the call and one without: all that can be seen stays alike, now and when it goes on. */
    private static void changesNothing(Supplier<StripsOfFour> made, List<Call> calls) {
        for (Call call : calls) {
            StripsOfFour x = made.get();
            StripsOfFour twin = made.get();
            due(call.name, call.made.applyAsLong(x), call.want);
            Sentences.same("behind " + call.name, Fairs.view(x), Fairs.view(twin));
            due(call.name + ", then undo", x.undo(), twin.undo());
            due(call.name + ", then minute", x.minute(), twin.minute());
            Sentences.same("on from " + call.name, Fairs.view(x), Fairs.view(twin));
            due(call.name + ", then slot 0", x.again(0), twin.again(0));
            due(call.name + ", then slot 1", x.again(1), twin.again(1));
            due(call.name + ", then fair", x.fair(), twin.fair());
        }
    }

    private static Call call(String name, ToLongFunction<StripsOfFour> made, long want) {
        return new Call(name, made, want);
    }

    // ---- the face

    @Says("REFUSALS: UNKNOWN -1 (there is no such BOOTH, PERSON, STRIP, SLOT), BAD -2, LATE -3, FULL -4.")
    static void refusals() {
        due("UNKNOWN", StripsOfFour.UNKNOWN, -1);
        due("BAD", StripsOfFour.BAD, -2);
        due("LATE", StripsOfFour.LATE, -3);
        due("FULL", StripsOfFour.FULL, -4);
    }

    @Says("NONE is -9.")
    static void none() {
        due("NONE", StripsOfFour.NONE, -9);
    }

    // ---- of several what is told first

    @Says("Of several what is told first.")
    static void writeBadBeforeFull() {
        StripsOfFour x = new StripsOfFour();
        for (int i = 0; i < 24; i++) {
            x.write('B');
        }
        due("write(-1)", x.write(-1), BAD);
        due("write(256)", x.write(256), BAD);
        due("write(255)", x.write(255), FULL);
    }

    @Says("Of several what is told first.")
    static void unknownBeforeBad() {
        StripsOfFour x = Fairs.ofEverything();
        due("booth", x.booth(2, 5), UNKNOWN);
        due("person", x.person(5, 4), UNKNOWN);
        due("strip", x.strip(2, 4), UNKNOWN);
        due("look", x.look(2, 4, 4), UNKNOWN);
        due("tear", x.tear(2, 0), UNKNOWN);
        due("found", x.found(2, 0, -1), UNKNOWN);
        due("forgery", x.forgery(2, -1, -1), UNKNOWN);
        due("toSit", x.toSit(2, -1), UNKNOWN);
        due("between", x.between(5, -1), UNKNOWN);
        due("most", x.most(2, -1), UNKNOWN);
        due("eyes", x.eyes(5, 2), UNKNOWN);
        due("whose", x.whose(5, 0, -1, true), UNKNOWN);
        due("open", x.open(2, 6, true), UNKNOWN);
    }

    @Says("Of several what is told first.")
    static void enterUnknownLateFull() {
        StripsOfFour x = Fairs.of("B2S01S01P0P0P0P0P0");
        for (int person = 0; person < 4; person++) {
            x.enter(person, 0);
        }
        due("no such booth, and it is in one", x.enter(0, 2), UNKNOWN);
        due("no such person, and it is full", x.enter(5, 0), UNKNOWN);
        due("it is in one, and it is full", x.enter(0, 0), LATE);
        x.enter(4, 1);
        due("it is in the other, and it is full", x.enter(4, 0), LATE);
        x.leave(4);
        due("too soon, and it is full", x.enter(4, 0), LATE);
        Fairs.minutes(x, 1);
        due("too soon, and it is full", x.enter(4, 0), LATE);
        Fairs.minutes(x, 1);
        due("full alone", x.enter(4, 0), FULL);
    }

    @Says("Of several what is told first.")
    static void unknownBeforeLate() {
        StripsOfFour x = Fairs.ofStrips(7);
        due("orderAt of none such, of too many", x.orderAt(7), UNKNOWN);
        due("orderAt of too many", x.orderAt(6), LATE);
        due("again of no such slot, none kept", x.again(2), UNKNOWN);
        due("leave of nobody such, in none", x.leave(5), UNKNOWN);
        due("hat of nobody such, in none", x.hat(-1), UNKNOWN);
    }

    @Says("Of several what is told first.")
    static void badBeforeLate() {
        StripsOfFour x = Fairs.ofStrips(1);
        x.tear(0, 1);
        due("tear behind 4 what is torn", x.tear(0, 4), BAD);
        due("tear behind 3 what is torn", x.tear(0, 3), LATE);
        due("whose on 9 looks of nobody", x.whose(0, 9, 9, true), BAD);
        due("whose of nobody", x.whose(0, 8, 8, true), LATE);
        due("strip 1, torn behind 4", x.tear(1, 4), UNKNOWN);
    }

    // ---- what is refused changes nothing

    @Says("What is refused changes nothing.")
    static void refusedOfTheFair() {
        changesNothing(Fairs::ofEverything, List.of(
            call("write(-1)", x -> x.write(-1), BAD),
            call("write(256)", x -> x.write(256), BAD),
            call("about(10)", x -> x.about(10), BAD),
            call("booth(2, 0)", x -> x.booth(2, 0), UNKNOWN),
            call("booth(0, 5)", x -> x.booth(0, 5), BAD),
            call("person(5, 0)", x -> x.person(5, 0), UNKNOWN),
            call("person(0, 4)", x -> x.person(0, 4), BAD),
            call("strip(2, 0)", x -> x.strip(2, 0), UNKNOWN),
            call("strip(0, 4)", x -> x.strip(0, 4), BAD),
            call("look(2, 0, 0)", x -> x.look(2, 0, 0), UNKNOWN),
            call("look(0, 4, 0)", x -> x.look(0, 4, 0), BAD)));
    }

    private static StripsOfFour withAFullText() {
        StripsOfFour x = Fairs.ofEverything();
        for (int i = 0; i < 6; i++) {
            x.write('P');
        }
        return x;
    }

    @Says("What is refused changes nothing.")
    static void refusedOfAFullText() {
        changesNothing(RefusalsTest::withAFullText, List.of(
            call("write(66)", x -> x.write('B'), FULL),
            call("write(256)", x -> x.write(256), BAD),
            call("fair()", x -> x.fair(), LATE)));
    }

    private static StripsOfFour withATextNotAtItsEnd() {
        StripsOfFour x = Fairs.ofEverything();
        Fairs.tell(x, "B9S99P1S");
        return x;
    }

    @Says("What is refused changes nothing.")
    static void refusedOfAFault() {
        changesNothing(RefusalsTest::withATextNotAtItsEnd, List.of(
            call("fair()", x -> x.fair(), LATE),
            call("fault(), fair()", x -> x.fault() + x.fair(), 8 + LATE)));
    }

    @Says("What is refused changes nothing.")
    static void refusedActs() {
        changesNothing(Fairs::ofEverything, List.of(
            call("enter(5, 0)", x -> x.enter(5, 0), UNKNOWN),
            call("enter(3, 2)", x -> x.enter(3, 2), UNKNOWN),
            call("enter(0, 1): it is in one", x -> x.enter(0, 1), LATE),
            call("enter(4, 0): too soon", x -> x.enter(4, 0), LATE),
            call("leave(5)", x -> x.leave(5), UNKNOWN),
            call("leave(2): in none", x -> x.leave(2), LATE),
            call("hat(5)", x -> x.hat(5), UNKNOWN),
            call("hat(2): in none", x -> x.hat(2), LATE),
            call("hat(1): it has it", x -> x.hat(1), LATE),
            call("tear(2, 1)", x -> x.tear(2, 1), UNKNOWN),
            call("tear(0, 4)", x -> x.tear(0, 4), BAD),
            call("tear(1, 1): it is torn", x -> x.tear(1, 1), LATE)));
    }

    private static StripsOfFour withAFullBooth() {
        StripsOfFour x = Fairs.of("B0S01S01P4P4P4P4P4");
        for (int person = 0; person < 4; person++) {
            x.enter(person, 0);
        }
        x.keep(1);
        x.hat(2);
        x.minute();
        return x;
    }

    @Says("What is refused changes nothing.")
    static void refusedOfAFullBooth() {
        changesNothing(RefusalsTest::withAFullBooth, List.of(
            call("enter(4, 0)", x -> x.enter(4, 0), FULL),
            call("stuck() of none", x -> x.stuck(), LATE)));
    }

    private static StripsOfFour withTheHatInTheOther() {
        StripsOfFour x = Fairs.ofEverything();
        x.enter(3, 1);
        return x;
    }

    @Says("What is refused changes nothing.")
    static void refusedOfTheHatInTheOther() {
        changesNothing(RefusalsTest::withTheHatInTheOther, List.of(
            call("hat(3)", x -> x.hat(3), LATE)));
    }

    @Says("What is refused changes nothing.")
    static void refusedUndo() {
        changesNothing(() -> Fairs.of("B0S01P0"), List.of(
            call("undo()", x -> x.undo(), LATE),
            call("undo(), undo()", x -> x.undo() + x.undo(), LATE + LATE)));
    }

    private static StripsOfFour withOneStrip() {
        StripsOfFour x = Fairs.ofStrips(1);
        x.keep(0);
        return x;
    }

    @Says("What is refused changes nothing.")
    static void refusedStuckOfOne() {
        changesNothing(RefusalsTest::withOneStrip, List.of(
            call("stuck()", x -> x.stuck(), LATE)));
    }

    @Says("What is refused changes nothing.")
    static void refusedQuestions() {
        changesNothing(Fairs::ofEverything, List.of(
            call("found(2, 1, 1)", x -> x.found(2, 1, 1), UNKNOWN),
            call("found(0, 5, 1)", x -> x.found(0, 5, 1), BAD),
            call("found(0, 1, 32)", x -> x.found(0, 1, 32), BAD),
            call("together(2)", x -> x.together(2), BAD),
            call("orderAt(2)", x -> x.orderAt(2), UNKNOWN),
            call("forgery(2, 0, 0)", x -> x.forgery(2, 0, 0), UNKNOWN),
            call("forgery(0, 1000, 0)", x -> x.forgery(0, 1000, 0), BAD),
            call("toSit(2, 0)", x -> x.toSit(2, 0), UNKNOWN),
            call("toSit(0, 31)", x -> x.toSit(0, 31), BAD),
            call("between(5, 0)", x -> x.between(5, 0), UNKNOWN),
            call("between(0, 1000)", x -> x.between(0, 1000), BAD),
            call("most(2, 0)", x -> x.most(2, 0), UNKNOWN),
            call("most(0, 1000)", x -> x.most(0, 1000), BAD)));
    }

    @Says("What is refused changes nothing.")
    static void refusedOfEyesAndSlots() {
        changesNothing(Fairs::ofEverything, List.of(
            call("eyes(5, 0)", x -> x.eyes(5, 0), UNKNOWN),
            call("eyes(0, 2)", x -> x.eyes(0, 2), BAD),
            call("whose(5, 1, 1)", x -> x.whose(5, 1, 1, true), UNKNOWN),
            call("whose(0, 9, 1)", x -> x.whose(0, 9, 1, true), BAD),
            call("open(2, 0)", x -> x.open(2, 0, true), UNKNOWN),
            call("open(0, 6)", x -> x.open(0, 6, true), BAD),
            call("keep(2)", x -> x.keep(2), UNKNOWN),
            call("again(2)", x -> x.again(2), UNKNOWN),
            call("again(1): none was kept", x -> x.again(1), LATE)));
    }

    @Says("What is refused changes nothing.")
    static void refusedOfSeven() {
        changesNothing(() -> Fairs.ofStrips(7), List.of(
            call("orders()", x -> x.orders(), LATE),
            call("orderAt(0)", x -> x.orderAt(0), LATE),
            call("whose(0, 1, 1): nobody blinks", x -> x.whose(0, 1, 1, true), LATE)));
    }

    // ---- what is only asked

    @Says("In what follows nothing is changed")
    static void askedChangesNothing() {
        List<Call> calls = new ArrayList<>(List.of(
            call("found(0, 2, 303)", x -> x.found(0, 2, 303), 0),
            call("together(0)", x -> x.together(0), 1),
            call("together(1)", x -> x.together(1), 1),
            call("orders()", x -> x.orders(), 2),
            call("orderAt(0)", x -> x.orderAt(0), 3),
            call("forgery(0, 0, 3030303)", x -> x.forgery(0, 0, 3030303), NONE),
            call("toSit(0, 3030303)", x -> x.toSit(0, 3030303), 0)));
        calls.add(call("between(0, 0)", x -> x.between(0, 0), 1));
        calls.add(call("most(0, 7)", x -> x.most(0, 7), 1));
        calls.add(call("eyes(0, 0)", x -> x.eyes(0, 0), 4));
        calls.add(call("whose(3, 1, 1)", x -> x.whose(3, 1, 1, true), 0));
        calls.add(call("open(1, 0)", x -> x.open(1, 0, true), 1));
        changesNothing(Fairs::ofEverything, calls);
    }
}
