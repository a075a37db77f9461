import java.util.List;
import java.util.function.ToIntFunction;

/**
 * "A refused call answers the code named and changes nothing": not the registers, and not what
 * any later call answers; nor does a question.
 */
public final class RefusedTest {
    private record Call(String name, ToIntFunction<RootSums> run) {
    }

    private record Refused(String name, int code, ToIntFunction<RootSums> run) {
    }

    /** Register 1 has a negative norm, and register 4 becomes 0. */
    private static final List<Refused> REFUSED = List.of(
        new Refused("put(6, 0, 1)", RootSums.BAD_ARG, sums -> sums.put(6, 0, 1)),
        new Refused("put(0, 4, 1)", RootSums.BAD_ARG, sums -> sums.put(0, 4, 1)),
        new Refused("put(0, 0, 31)", RootSums.BAD_ARG, sums -> sums.put(0, 0, 31)),
        new Refused("whole(-1, 1)", RootSums.BAD_ARG, sums -> sums.whole(-1, 1)),
        new Refused("whole(0, -31)", RootSums.BAD_ARG, sums -> sums.whole(0, -31)),
        new Refused("part(0, 5)", RootSums.BAD_ARG, sums -> sums.part(0, 5)),
        new Refused("add(6, 0, 1)", RootSums.BAD_ARG, sums -> sums.add(6, 0, 1)),
        new Refused("add(0, 2, 5)", RootSums.OVER, sums -> sums.add(0, 2, 5)),
        new Refused("add(2, 2, 2)", RootSums.OVER, sums -> sums.add(2, 2, 2)),
        new Refused("subtract(0, 6, 1)", RootSums.BAD_ARG, sums -> sums.subtract(0, 6, 1)),
        new Refused("subtract(0, 3, 5)", RootSums.OVER, sums -> sums.subtract(0, 3, 5)),
        new Refused("multiply(0, 1, 6)", RootSums.BAD_ARG, sums -> sums.multiply(0, 1, 6)),
        new Refused("multiply(5, 2, 3)", RootSums.OVER, sums -> sums.multiply(5, 2, 3)),
        new Refused("divide(-1, 2, 1)", RootSums.BAD_ARG, sums -> sums.divide(-1, 2, 1)),
        new Refused("divide(0, 2, 1)", RootSums.OVER, sums -> sums.divide(0, 2, 1)),
        new Refused("divide(1, 5, 1)", RootSums.OVER, sums -> sums.divide(1, 5, 1)),
        new Refused("divide(2, 1, 4)", RootSums.NONE, sums -> sums.divide(2, 1, 4)),
        new Refused("divide(4, 4, 4)", RootSums.NONE, sums -> sums.divide(4, 4, 4)),
        new Refused("conjugate(0, 6, 1)", RootSums.BAD_ARG, sums -> sums.conjugate(0, 6, 1)),
        new Refused("conjugate(0, 1, 4)", RootSums.BAD_ARG, sums -> sums.conjugate(0, 1, 4)),
        new Refused("sign(6)", RootSums.BAD_ARG, sums -> sums.sign(6)),
        new Refused("compare(0, 6)", RootSums.BAD_ARG, sums -> sums.compare(0, 6)),
        new Refused("floor(-1)", RootSums.BAD_ARG, sums -> sums.floor(-1)),
        new Refused("degree(6)", RootSums.BAD_ARG, sums -> sums.degree(6)),
        new Refused("positive(6)", RootSums.BAD_ARG, sums -> sums.positive(6)),
        new Refused("ranked(6)", RootSums.BAD_ARG, sums -> sums.ranked(6)),
        new Refused("multipleFloor(0, 6)", RootSums.BAD_ARG, sums -> sums.multipleFloor(0, 6)),
        new Refused("inverse(6, 0)", 0, sums -> sums.inverse(6, 0) ? 1 : 0),
        new Refused("norm(6)", RootSums.BAD_ARG, sums -> sums.norm(6)),
        new Refused("norm(0)", RootSums.NONE, sums -> sums.norm(0)),
        new Refused("norm(5)", RootSums.NONE, sums -> sums.norm(5)));

    private static final List<Call> QUESTIONS = List.of(
        new Call("part(3, 4)", sums -> sums.part(3, 4)),
        new Call("sign(0)", sums -> sums.sign(0)),
        new Call("compare(0, 2)", sums -> sums.compare(0, 2)),
        new Call("floor(5)", sums -> sums.floor(5)),
        new Call("degree(3)", sums -> sums.degree(3)),
        new Call("positive(1)", sums -> sums.positive(1)),
        new Call("ranked(3)", sums -> sums.ranked(3)),
        new Call("multipleFloor(5, 5)", sums -> sums.multipleFloor(5, 5)),
        new Call("inverse(0, 1)", sums -> sums.inverse(0, 1) ? 1 : 0),
        new Call("norm(1)", sums -> sums.norm(1)));

    private static final List<Call> CHANGES = List.of(
        new Call("put(3, 3, 15)", sums -> sums.put(3, 3, 15)),
        new Call("put(5, 0, 0)", sums -> sums.put(5, 0, 0)),
        new Call("whole(3, -7)", sums -> sums.whole(3, -7)),
        new Call("add(5, 0, 0)", sums -> sums.add(5, 0, 0)),
        new Call("subtract(5, 4, 3)", sums -> sums.subtract(5, 4, 3)),
        new Call("multiply(5, 1, 1)", sums -> sums.multiply(5, 1, 1)),
        new Call("divide(5, 1, 1)", sums -> sums.divide(5, 1, 1)),
        new Call("divide(5, 4, 1)", sums -> sums.divide(5, 4, 1)),
        new Call("conjugate(5, 3, 2)", sums -> sums.conjugate(5, 3, 2)));

    public static void main(String[] args) {
        everyRefusal();
        everyCallAfterARefusedOne();
        everyCallAfterAQuestion();
        Due.end();
    }

    private static RootSums filled() {
        RootSums sums = Edge.filled(Edge.number(5, 4, 8, -10, 6), Edge.number(1, 1, 1, 0, 1));
        sums.whole(4, 0);
        return sums;
    }

    private static void everyRefusal() {
        for (Refused refused : REFUSED) {
            Edge.keeps(filled(), refused.name, refused.code, refused.run);
        }
    }

    private static void everyCallAfterARefusedOne() {
        for (Refused refused : REFUSED) {
            everyCallAfter(new Call(refused.name, refused.run));
        }
    }

    private static void everyCallAfterAQuestion() {
        for (Call question : QUESTIONS) {
            Edge.keeps(filled(), question.name, question.run.applyAsInt(filled()), question.run);
            everyCallAfter(question);
        }
    }

    /** Each call is answered, and changes what it changes, as on an object without the earlier one. */
    private static void everyCallAfter(Call earlier) {
        for (Refused later : REFUSED) {
            sameAfter(earlier, new Call(later.name, later.run));
        }
        for (Call later : QUESTIONS) {
            sameAfter(earlier, later);
        }
        for (Call later : CHANGES) {
            sameAfter(earlier, later);
        }
    }

    private static void sameAfter(Call earlier, Call later) {
        RootSums without = filled();
        RootSums with = filled();
        Edge.answer(with, earlier.name, earlier.run);
        String call = later.name + " after " + earlier.name;
        int due = Edge.answer(without, later.name, later.run);
        Due.is(call, Edge.answer(with, call, later.run), due);
        Edge.same(call, with, Edge.look(without));
    }
}
