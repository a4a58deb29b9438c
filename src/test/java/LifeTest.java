import java.util.function.ToIntFunction;

/** An object used for as many calls as the document allows: each method early, late, and as the last call of all. */
public final class LifeTest {
    private static final int LIFE = 512;

    /** A call of which the answer stays the same for as long as the object holds what ready() puts in. */
    private record Call(String text, ToIntFunction<KnapsackFamily> make, int due) {}

    // ready() holds (4, 10, 2, 0), (6, 15, 1, 1), (3, 2, 1, 0) and has the limit 14.
    private static final Call[] CALLS = {
        new Call("goods()", KnapsackFamily::goods, 3),
        new Call("weightOf(22)", x -> x.weightOf(22), 17),
        new Call("weightOf(27)", x -> x.weightOf(27), -1),
        new Call("valueOf(22)", x -> x.valueOf(22), 37),
        new Call("valueOf(-1)", x -> x.valueOf(-1), -1),
        new Call("best()", KnapsackFamily::best, 35),
        new Call("bestCode()", KnapsackFamily::bestCode, 21),
        new Call("bestStrict()", KnapsackFamily::bestStrict, 35),
        new Call("bestStrictCode()", KnapsackFamily::bestStrictCode, 21),
        new Call("fitting()", KnapsackFamily::fitting, 11),
        new Call("weighing(10)", x -> x.weighing(10), 1),
        new Call("weighing(301)", x -> x.weighing(301), -1),
        new Call("fullest()", KnapsackFamily::fullest, 14),
        new Call("lightest(36)", x -> x.lightest(36), 17),
        new Call("lightest(38)", x -> x.lightest(38), -1),
        new Call("two(3)", x -> x.two(3), 37),
        new Call("two(61)", x -> x.two(61), -1),
        new Call("without(1)", x -> x.without(1), 22),
        new Call("without(3)", x -> x.without(3), -1),
        new Call("halves()", KnapsackFamily::halves, 0),
        new Call("limit(14)", x -> x.limit(14), 14),
        new Call("limit(61)", x -> x.limit(61), -1),
        new Call("add(0, 0, 4)", x -> x.add(0, 0, 4), -1),
        new Call("add(1, 51, 4)", x -> x.add(1, 51, 4), -2),
        new Call("add(1, 0, 12)", x -> x.add(1, 0, 12), -3),
        new Call("sow(101, 1)", x -> x.sow(101, 1), -1),
        new Call("sow(0, 8)", x -> x.sow(0, 8), -2),
        new Call("drop(3)", x -> x.drop(3), -1),
    };
    private static final int CALLS_OF_READY = 4;

    private static void due(String what, int got, int want) {
        Sentences.due(what, got, want);
    }

    private static KnapsackFamily ready() {
        KnapsackFamily x = Sentences.with(new int[] {4, 10, 2, 0}, new int[] {6, 15, 1, 1}, new int[] {3, 2, 1, 0});
        return Sentences.limited(x, 14);
    }

    private static void oneCallAgainAndAgain() {
        for (Call call : CALLS) {
            KnapsackFamily x = ready();
            for (int at = CALLS_OF_READY + 1; at <= LIFE; at++) {
                due("call " + at + ", " + call.text(), call.make().applyAsInt(x), call.due());
            }
        }
    }

    /** Each call comes last once, after a row of all the others. */
    private static void eachCallAsTheLast() {
        for (int shift = 0; shift < CALLS.length; shift++) {
            KnapsackFamily x = ready();
            for (int at = CALLS_OF_READY + 1; at <= LIFE; at++) {
                Call call = CALLS[(at + shift) % CALLS.length];
                due("call " + at + ", " + call.text(), call.make().applyAsInt(x), call.due());
            }
        }
    }

    private static void fillAndEmpty() {
        for (int last = 0; last < 14; last++) {
            KnapsackFamily x = new KnapsackFamily();
            // Some goods() first, so that each step of the filling and the emptying comes last once.
            for (int at = 1; at <= LIFE; at++) {
                int step = (at - 1 - last) % 14;
                String what = "call " + at;
                if (at <= last) {
                    due(what, x.goods(), 0);
                } else if (step < 7) {
                    due(what + ", add", x.add(1 + step, step, 4), step);
                } else {
                    due(what + ", drop", x.drop(step % 2 == 0 ? 0 : 13 - step), 13 - step);
                }
            }
        }
    }

    private static void sowAndDrop() {
        KnapsackFamily x = new KnapsackFamily();
        due("call 1, sow", x.sow(100, 7), 7);
        for (int at = 2; at < LIFE; at += 2) {
            due("call " + at + ", drop", x.drop(at % 7), 6);
            due("call " + (at + 1) + ", sow", x.sow(at % 101, 7), 7);
        }
        due("call 512, goods", x.goods(), 7);
    }

    private static void addToAFullList() {
        KnapsackFamily x = Sentences.alike(7, 20, 50, 2);
        for (int at = 8; at < LIFE; at += 2) {
            due("call " + at + ", add", x.add(1, 1, 4), -4);
            due("call " + (at + 1) + ", sow", x.sow(at % 101, 1 + at % 7), 7);
        }
        due("call 512, weightOf", x.weightOf(2186), 280);
    }

    private static void limitUpAndDown() {
        KnapsackFamily x = new KnapsackFamily();
        int before = 20;
        for (int at = 1; at <= LIFE; at++) {
            int limit = at * 7 % 61;
            due("call " + at + ", limit", x.limit(limit), before);
            before = limit;
        }
    }

    private static void twoUnderEveryLimit() {
        KnapsackFamily x = Sentences.alike(7, 20, 50, 2);
        for (int at = 8; at < LIFE; at += 2) {
            int limit = at * 11 % 61;
            int other = at * 29 % 61;
            x.limit(limit);
            due("call " + (at + 1) + ", two", x.two(other), 50 * (limit / 20 + other / 20));
        }
        due("call 512, goods", x.goods(), 7);
    }

    public static void main(String[] args) {
        Sentences.sentence("What it is", "An object is used for at most 512 calls after it has been made");
        oneCallAgainAndAgain();
        eachCallAsTheLast();
        fillAndEmpty();
        sowAndDrop();
        addToAFullList();
        limitUpAndDown();
        twoUnderEveryLimit();
        Sentences.end();
    }
}
