import java.util.ArrayList;
import java.util.List;
import java.util.function.Supplier;
import java.util.function.ToIntFunction;

/** That no question and no refused call changes anything, whatever is asked for afterwards. */
public final class NothingChangesTest {
    private record Call(String text, ToIntFunction<KnapsackFamily> make) {}

    /** Objects with none, some and all of the goods, under small and great limits. */
    private static List<Supplier<KnapsackFamily>> beginnings() {
        List<Supplier<KnapsackFamily>> all = new ArrayList<>();
        for (int limit : new int[] {0, 20, 37, 60}) {
            for (int count = 0; count <= 7; count++) {
                int goods = count;
                all.add(() -> Sentences.limited(mixed(goods), limit));
            }
            all.add(() -> Sentences.limited(Sentences.alike(7, 20, 50, 2), limit));
        }
        all.add(KnapsackFamily::new);
        all.add(NothingChangesTest::movedAbout);
        return all;
    }

    private static KnapsackFamily mixed(int goods) {
        KnapsackFamily x = new KnapsackFamily();
        for (int i = 0; i < goods; i++) {
            x.add(3 + 2 * i, 11 + 5 * i % 17, Sentences.sort(1 + i % 2, i % 3));
        }
        return x;
    }

    /** Behind the last good lie places that have been used before. */
    private static KnapsackFamily movedAbout() {
        KnapsackFamily x = Sentences.alike(7, 4, 6, 2);
        x.drop(2);
        x.drop(0);
        x.sow(33, 1);
        x.drop(1);
        return x;
    }

    private static List<Call> refusedWith(int goods) {
        List<Call> all = new ArrayList<>();
        for (int bad : new int[] {0, 21, -1, Sentences.LEAST, Sentences.MOST}) {
            all.add(new Call("add(" + bad + ", 9, 6)", x -> x.add(bad, 9, 6)));
        }
        for (int bad : new int[] {51, -1, Sentences.LEAST, Sentences.MOST}) {
            all.add(new Call("add(2, " + bad + ", 6)", x -> x.add(2, bad, 6)));
        }
        for (int bad : new int[] {3, 12, 0, -1, Sentences.LEAST, Sentences.MOST}) {
            all.add(new Call("add(2, 9, " + bad + ")", x -> x.add(2, 9, bad)));
        }
        if (goods == 7) {
            all.add(new Call("add(2, 9, 6) to seven goods", x -> x.add(2, 9, 6)));
        }
        for (int bad : new int[] {101, -1, Sentences.LEAST, Sentences.MOST}) {
            all.add(new Call("sow(" + bad + ", 3)", x -> x.sow(bad, 3)));
        }
        for (int bad : new int[] {0, 8, -1, Sentences.LEAST, Sentences.MOST}) {
            all.add(new Call("sow(11, " + bad + ")", x -> x.sow(11, bad)));
        }
        for (int bad : new int[] {goods, -1, 7, Sentences.LEAST, Sentences.MOST}) {
            all.add(new Call("drop(" + bad + ")", x -> x.drop(bad)));
            all.add(new Call("without(" + bad + ")", x -> x.without(bad)));
        }
        for (int bad : new int[] {61, -1, Sentences.LEAST, Sentences.MOST}) {
            all.add(new Call("limit(" + bad + ")", x -> x.limit(bad)));
            all.add(new Call("two(" + bad + ")", x -> x.two(bad)));
        }
        for (int bad : new int[] {Sentences.tooLong(goods), -1, Sentences.LEAST, Sentences.MOST}) {
            all.add(new Call("weightOf(" + bad + ")", x -> x.weightOf(bad)));
            all.add(new Call("valueOf(" + bad + ")", x -> x.valueOf(bad)));
        }
        for (int bad : new int[] {301, -1, Sentences.LEAST, Sentences.MOST}) {
            all.add(new Call("weighing(" + bad + ")", x -> x.weighing(bad)));
        }
        all.add(new Call("lightest(701)", x -> x.lightest(701)));
        all.add(new Call("lightest(" + Sentences.MOST + ")", x -> x.lightest(Sentences.MOST)));
        return all;
    }

    private static List<Call> questionsWith(int goods) {
        List<Call> all = new ArrayList<>();
        all.add(new Call("goods()", KnapsackFamily::goods));
        all.add(new Call("best()", KnapsackFamily::best));
        all.add(new Call("bestCode()", KnapsackFamily::bestCode));
        all.add(new Call("bestStrict()", KnapsackFamily::bestStrict));
        all.add(new Call("bestStrictCode()", KnapsackFamily::bestStrictCode));
        all.add(new Call("fitting()", KnapsackFamily::fitting));
        all.add(new Call("fullest()", KnapsackFamily::fullest));
        all.add(new Call("halves()", KnapsackFamily::halves));
        for (int code : new int[] {0, 1, Sentences.tooLong(goods) / 2, Sentences.tooLong(goods) - 1}) {
            all.add(new Call("weightOf(" + code + ")", x -> x.weightOf(code)));
            all.add(new Call("valueOf(" + code + ")", x -> x.valueOf(code)));
        }
        for (int weight : new int[] {0, 20, 61, 300}) {
            all.add(new Call("weighing(" + weight + ")", x -> x.weighing(weight)));
        }
        for (int value : new int[] {Sentences.LEAST, 0, 1, 60}) {
            all.add(new Call("lightest(" + value + ")", x -> x.lightest(value)));
        }
        for (int other : new int[] {0, 1, 20, 60}) {
            all.add(new Call("two(" + other + ")", x -> x.two(other)));
        }
        for (int i = 0; i < goods; i++) {
            int number = i;
            all.add(new Call("without(" + i + ")", x -> x.without(number)));
        }
        return all;
    }

    /** A sow into a full list is not refused, but has nothing to put in. */
    private static List<Call> sowsWithoutRoom() {
        List<Call> all = new ArrayList<>();
        for (int seed : new int[] {0, 1, 100}) {
            for (int count : new int[] {1, 7}) {
                all.add(new Call("sow(" + seed + ", " + count + ") to seven goods", x -> x.sow(seed, count)));
            }
        }
        return all;
    }

    /** What can be found out about an object, each thing from a new one, so that no look spoils another. */
    private static List<String> look(Supplier<KnapsackFamily> make) {
        List<String> seen = new ArrayList<>();
        int goods = make.get().goods();
        for (Call question : questionsWith(goods)) {
            seen.add(question.text() + " = " + question.make().applyAsInt(make.get()));
        }
        for (int i = 0; i < goods; i++) {
            lookAtGood(make, goods, i, seen);
            for (int j = i + 1; j < goods; j++) {
                KnapsackFamily x = make.get();
                Sentences.keepTwo(x, i, j);
                Sentences.limited(x, 60);
                seen.add("bestStrict of the goods " + i + " and " + j + " = " + x.bestStrict());
            }
        }
        seen.add("limit(7) = " + make.get().limit(7));
        lookAfterGrowth(make, seen);
        return seen;
    }

    private static void lookAtGood(Supplier<KnapsackFamily> make, int goods, int i, List<String> seen) {
        for (int pieces = 1; pieces <= 2; pieces++) {
            int code = Sentences.only(goods, i, pieces);
            seen.add("weightOf(" + code + ") = " + make.get().weightOf(code));
            seen.add("valueOf(" + code + ") = " + make.get().valueOf(code));
        }
        KnapsackFamily x = make.get();
        seen.add("drop(" + i + ") = " + x.drop(i) + ", then best() = " + x.best());
    }

    private static void lookAfterGrowth(Supplier<KnapsackFamily> make, List<String> seen) {
        KnapsackFamily added = make.get();
        seen.add("add(1, 2, 9) = " + added.add(1, 2, 9) + ", then best() = " + added.best());
        KnapsackFamily sown = make.get();
        seen.add("sow(5, 7) = " + sown.sow(5, 7) + ", then fitting() = " + sown.fitting());
    }

    private static void sameAfter(List<String> before, Supplier<KnapsackFamily> make, String what) {
        List<String> after = look(make);
        for (int at = 0; at < Math.max(before.size(), after.size()); at++) {
            String was = at < before.size() ? before.get(at) : "nothing";
            String is = at < after.size() ? after.get(at) : "nothing";
            if (!was.equals(is)) {
                Sentences.broken("after " + what + ": " + is + ", before: " + was);
            }
        }
    }

    /** Each call alone, then all of them in a row. */
    private static void noneOfThemChanges(Supplier<KnapsackFamily> make, List<Call> calls, String all) {
        List<String> before = look(make);
        for (Call call : calls) {
            sameAfter(before, () -> {
                KnapsackFamily x = make.get();
                call.make().applyAsInt(x);
                return x;
            }, call.text());
        }
        sameAfter(before, () -> {
            KnapsackFamily x = make.get();
            for (Call call : calls) {
                call.make().applyAsInt(x);
            }
            return x;
        }, all);
    }

    private static void questions() {
        Sentences.sentence("Terms", "No question changes anything.");
        for (Supplier<KnapsackFamily> make : beginnings()) {
            List<Call> calls = questionsWith(make.get().goods());
            noneOfThemChanges(make, calls, "all questions");
            for (Call call : calls) {
                KnapsackFamily x = make.get();
                int first = call.make().applyAsInt(x);
                Sentences.due(call.text() + " asked again", call.make().applyAsInt(x), first);
            }
        }
    }

    private static void refusedCalls() {
        Sentences.sentence("Terms", "A refused call changes nothing.");
        for (Supplier<KnapsackFamily> make : beginnings()) {
            List<Call> calls = refusedWith(make.get().goods());
            for (Call call : calls) {
                if (call.make().applyAsInt(make.get()) >= 0) {
                    Sentences.broken(call.text() + " is not refused");
                }
            }
            noneOfThemChanges(make, calls, "all refused calls");
        }
    }

    private static void sowsIntoAFullList() {
        Sentences.sentence("Promise 3", "Puts up to count goods in, as long as there is room");
        for (Supplier<KnapsackFamily> make : beginnings()) {
            if (make.get().goods() == 7) {
                for (Call call : sowsWithoutRoom()) {
                    Sentences.due(call.text(), call.make().applyAsInt(make.get()), 7);
                }
                noneOfThemChanges(make, sowsWithoutRoom(), "all sows into a full list");
            }
        }
    }

    public static void main(String[] args) {
        questions();
        refusedCalls();
        sowsIntoAFullList();
        Sentences.end();
    }
}
