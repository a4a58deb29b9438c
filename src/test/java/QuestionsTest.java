import java.util.function.ToIntBiFunction;

/** The sentences of the promises 6 to 19, the questions, at their bounds. */
public final class QuestionsTest {
    private static final int[] TWENTY_TWICE = {20, 50, 2, 0};
    private static final int[] TWENTY_ONCE = {20, 50, 1, 1};
    private static final int[] ONE_ONCE = {1, 50, 1, 2};

    private static void due(String what, int got, int want) {
        Sentences.due(what, got, want);
    }

    /** Weighs 61 with all pieces, one more than the greatest limit. */
    private static KnapsackFamily sixtyOne(int limit) {
        return Sentences.limited(Sentences.with(TWENTY_TWICE, TWENTY_ONCE, ONE_ONCE), limit);
    }

    private static KnapsackFamily heavy(int limit) {
        return Sentences.limited(Sentences.alike(7, 20, 50, 2), limit);
    }

    private static KnapsackFamily light(int limit) {
        return Sentences.limited(Sentences.alike(7, 1, 50, 2), limit);
    }

    private static void goods() {
        Sentences.sentence("Promise 6", "How many goods there are.");
        KnapsackFamily x = new KnapsackFamily();
        due("none", x.goods(), 0);
        for (int i = 1; i <= 7; i++) {
            x.add(20, 50, 11);
            due("after add", x.goods(), i);
        }
        x.add(20, 50, 11);
        due("after a refused add", x.goods(), 7);
        for (int i = 6; i >= 0; i--) {
            x.drop(i);
            due("after drop", x.goods(), i);
        }
        x.drop(0);
        due("after a refused drop", x.goods(), 0);
    }

    /** weightOf or valueOf: the promise, how it is asked, and what a piece of the goods (20, 50) adds to it. */
    private record OfCode(String promise, String name, ToIntBiFunction<KnapsackFamily, Integer> ask, int perPiece) {
        void due(KnapsackFamily x, int code, int want) {
            Sentences.due(name + "(" + code + ") with " + x.goods() + " goods", ask.applyAsInt(x, code), want);
        }
    }

    private static final OfCode[] OF_CODES = {
        new OfCode("Promise 7", "weightOf", KnapsackFamily::weightOf, 20),
        new OfCode("Promise 8", "valueOf", KnapsackFamily::valueOf, 50),
    };

    private static void codesTooLong(OfCode of) {
        Sentences.sentence(of.promise(), "-1 if code is not that of a choice.");
        for (int goods = 0; goods <= 7; goods++) {
            KnapsackFamily x = Sentences.alike(goods, 20, 50, 2);
            of.due(x, Sentences.tooLong(goods) - 1, 2 * of.perPiece() * goods);
            for (int code = Sentences.tooLong(goods); code < 1000000000; code *= 3) {
                of.due(x, code, -1);
                of.due(x, code + 1, -1);
            }
            // The greatest power of 3 that is an int, and the greatest int.
            of.due(x, 1162261467, -1);
            of.due(x, 1162261468, -1);
            of.due(x, Sentences.MOST - 1, -1);
            of.due(x, Sentences.MOST, -1);
        }
    }

    private static void codesAboveASupply(OfCode of) {
        Sentences.sentence(of.promise(), "-1 if code is not that of a choice.");
        for (int goods = 1; goods <= 7; goods++) {
            KnapsackFamily once = Sentences.alike(goods, 20, 50, 1);
            int all = Sentences.code("1".repeat(goods));
            of.due(once, all, of.perPiece() * goods);
            of.due(once, all + 1, -1);
            of.due(once, Sentences.tooLong(goods) - 1, -1);
            for (int i = 0; i < goods; i++) {
                of.due(once, Sentences.only(goods, i, 2), -1);
                KnapsackFamily mixed = new KnapsackFamily();
                for (int at = 0; at < goods; at++) {
                    mixed.add(20, 50, Sentences.sort(at == i ? 1 : 2, 0));
                }
                int twoOfEach = Sentences.tooLong(goods) - 1;
                of.due(mixed, twoOfEach, -1);
                of.due(mixed, twoOfEach - Sentences.only(goods, i, 1), of.perPiece() * (2 * goods - 1));
            }
        }
    }

    private static void codesBelowNothing(OfCode of) {
        Sentences.sentence(of.promise(), "-1 if code is not that of a choice.");
        for (int goods = 0; goods <= 7; goods++) {
            KnapsackFamily x = Sentences.alike(goods, 20, 50, 2);
            for (int code : new int[] {-1, -2, -3, -4, -9, -27, -81, -243, -729, -2186, -2187, -2188, -1162261467,
                Sentences.LEAST, Sentences.LEAST + 1, Sentences.LEAST + 2}) {
                of.due(x, code, -1);
            }
            of.due(x, 0, 0);
        }
    }

    private static void codesWhateverTheLimit(OfCode of) {
        Sentences.sentence(of.promise(), "The " + of.name().replace("Of", "") + " of the choice with this code.");
        of.due(heavy(0), 2186, 14 * of.perPiece());
        of.due(heavy(60), 2186, 14 * of.perPiece());
        of.due(heavy(0), 1, of.perPiece());
        of.due(heavy(0), 0, 0);
    }

    private static void best() {
        Sentences.sentence("Promise 9", "The value of the best choice that fits.");
        due("no goods, limit 0", Sentences.limited(new KnapsackFamily(), 0).best(), 0);
        due("no goods, limit 60", Sentences.limited(new KnapsackFamily(), 60).best(), 0);
        due("limit 0", light(0).best(), 0);
        due("limit 1", light(1).best(), 50);
        due("one piece too many", light(13).best(), 650);
        due("every piece just fits", light(14).best(), 700);
        due("every piece, limit 60", light(60).best(), 700);
        due("six pieces of 20 are too many", heavy(60).best(), 150);
        due("three pieces of 20 are too many", heavy(59).best(), 100);
        due("61 in all, limit 60", sixtyOne(60).best(), 150);
        due("61 in all, limit 40", sixtyOne(40).best(), 100);
        due("61 in all, limit 41", sixtyOne(41).best(), 150);
        due("values of 0", Sentences.alike(7, 1, 0, 2).best(), 0);
        due("values of 50", Sentences.alike(1, 10, 50, 2).best(), 100);
    }

    private static void bestCode() {
        Sentences.sentence("Promise 10", "The code of the best choice that fits (better than all others that fit).");
        due("no goods", new KnapsackFamily().bestCode(), 0);
        due("limit 0", light(0).bestCode(), 0);
        due("limit 1", light(1).bestCode(), 1);
        due("every piece", light(14).bestCode(), 2186);
        due("every piece but one", light(13).bestCode(), Sentences.code("1222222"));
        due("every piece, limit 60", light(60).bestCode(), 2186);
        due("three pieces of 20", heavy(60).bestCode(), Sentences.code("12"));
        due("two pieces of 20", heavy(59).bestCode(), Sentences.code("2"));
        due("one piece of 20", heavy(20).bestCode(), 1);
        due("none of 20", heavy(19).bestCode(), 0);
        due("61 in all: 20 + 20 + 1 is lighter than three of 20", sixtyOne(60).bestCode(), Sentences.code("111"));
        due("a heavier one of greater value does not fit",
            Sentences.with(new int[] {11, 50, 2, 0}, new int[] {9, 1, 1, 0}).bestCode(), Sentences.code("11"));
    }

    private static void bestStrict() {
        Sentences.sentence("Promise 11", "The value of the best strict choice that fits.");
        due("no goods, limit 0", Sentences.limited(new KnapsackFamily(), 0).bestStrict(), 0);
        due("limit 0", light(0).bestStrict(), 0);
        due("limit 1", light(1).bestStrict(), 50);
        due("two pieces of each family just fit", light(8).bestStrict(), 400);
        due("one piece too many", light(7).bestStrict(), 350);
        due("two pieces of each family, limit 60", light(60).bestStrict(), 400);
        due("three pieces of 20", heavy(60).bestStrict(), 150);
        due("two pieces of 20", heavy(59).bestStrict(), 100);
        KnapsackFamily one = new KnapsackFamily();
        for (int i = 0; i < 7; i++) {
            one.add(1, 50, Sentences.sort(2, 3));
        }
        due("seven goods of one family", one.bestStrict(), 100);
        due("the same, not strict", one.best(), 700);
        KnapsackFamily once = Sentences.with(new int[] {1, 30, 1, 0}, new int[] {1, 29, 2, 0}, new int[] {20, 50, 2, 0});
        due("two pieces of less value", once.bestStrict(), 58);
        due("one good, limit 1", Sentences.limited(once, 1).bestStrict(), 30);
        due("the dearest of the family fits", Sentences.limited(once, 40).bestStrict(), 100);
        due("the dearest of the family is too heavy twice", Sentences.limited(once, 39).bestStrict(), 58);
    }

    private static void bestStrictCode() {
        Sentences.sentence("Promise 12", "The code of the best strict choice that fits.");
        due("no goods", new KnapsackFamily().bestStrictCode(), 0);
        due("limit 0", light(0).bestStrictCode(), 0);
        due("limit 1", light(1).bestStrictCode(), 1);
        due("the last good of each family", light(8).bestStrictCode(), Sentences.code("0002222"));
        due("the last good of each family, one piece less", light(7).bestStrictCode(), Sentences.code("0001222"));
        due("the last good of each family, limit 60", light(60).bestStrictCode(), Sentences.code("0002222"));
        due("three pieces of 20", heavy(60).bestStrictCode(), Sentences.code("12"));
        KnapsackFamily first = Sentences.with(new int[] {1, 50, 1, 0}, new int[] {1, 49, 1, 0}, new int[] {1, 1, 1, 3});
        due("the dearer one of the family has the greater code", first.bestStrictCode(), Sentences.code("101"));
        due("the same, not strict", first.bestCode(), Sentences.code("111"));
    }

    private static void fitting() {
        Sentences.sentence("Promise 13", "How many choices fit.");
        due("no goods, limit 0", Sentences.limited(new KnapsackFamily(), 0).fitting(), 1);
        due("no goods, limit 60", Sentences.limited(new KnapsackFamily(), 60).fitting(), 1);
        due("limit 0", light(0).fitting(), 1);
        due("limit 1", light(1).fitting(), 8);
        due("limit 2", light(2).fitting(), 36);
        due("all but one", light(13).fitting(), 2186);
        due("all", light(14).fitting(), 2187);
        due("all, limit 60", light(60).fitting(), 2187);
        due("limit 19", heavy(19).fitting(), 1);
        due("limit 20", heavy(20).fitting(), 8);
        due("limit 59", heavy(59).fitting(), 36);
        // Three pieces: 35 choices of three goods, 42 of two of one good and one of another.
        due("limit 60", heavy(60).fitting(), 113);
        due("all but the one of 61", sixtyOne(60).fitting(), 11);
        due("supplies of 1", Sentences.alike(7, 1, 0, 1).fitting(), 128);
    }

    private static void weighing() {
        Sentences.sentence("Promise 14", "How many choices have just this weight.");
        due("no goods, 0", new KnapsackFamily().weighing(0), 1);
        due("no goods, 1", new KnapsackFamily().weighing(1), 0);
        due("no goods, 300", new KnapsackFamily().weighing(300), 0);
        int[][] rows = {{0, 1}, {1, 0}, {19, 0}, {20, 7}, {21, 0}, {40, 28}, {60, 77}, {140, 393}, {240, 28}, {260, 7},
            {279, 0}, {280, 1}, {281, 0}, {299, 0}, {300, 0}};
        for (int[] row : rows) {
            due("weight " + row[0] + ", limit 0", heavy(0).weighing(row[0]), row[1]);
            due("weight " + row[0] + ", limit 60", heavy(60).weighing(row[0]), row[1]);
        }
        due("seven pieces of 14", light(0).weighing(7), 393);
        due("all pieces", light(0).weighing(14), 1);
        due("more than all pieces", light(0).weighing(15), 0);
    }

    private static void weighingOutside() {
        Sentences.sentence("Promise 14", "-1 if weight is not in 0 .. 300.");
        Sentences.refusedOutside("no goods, weight", weight -> new KnapsackFamily().weighing(weight), 0, 300, -1);
        Sentences.refusedOutside("seven goods, weight", weight -> heavy(60).weighing(weight), 0, 300, -1);
        due("weight 0", heavy(60).weighing(0), 1);
        due("weight 300", heavy(60).weighing(300), 0);
    }

    private static void fullest() {
        Sentences.sentence("Promise 15", "The greatest weight of a choice that fits.");
        due("no goods, limit 60", Sentences.limited(new KnapsackFamily(), 60).fullest(), 0);
        due("limit 0", light(0).fullest(), 0);
        due("limit 1", light(1).fullest(), 1);
        due("just all", light(14).fullest(), 14);
        due("all but one piece", light(13).fullest(), 13);
        due("all, limit 60", light(60).fullest(), 14);
        due("limit 19", heavy(19).fullest(), 0);
        due("limit 20", heavy(20).fullest(), 20);
        due("limit 59", heavy(59).fullest(), 40);
        due("limit 60", heavy(60).fullest(), 60);
        due("61 in all, limit 60", sixtyOne(60).fullest(), 60);
        due("61 in all, limit 59", sixtyOne(59).fullest(), 41);
        due("values of 0", Sentences.alike(1, 10, 0, 2).fullest(), 20);
        due("fuller than the best",
            Sentences.with(new int[] {1, 50, 1, 0}, new int[] {20, 1, 1, 0}).fullest(), 20);
        due("not strict", Sentences.with(new int[] {9, 1, 1, 0}, new int[] {9, 1, 1, 0}).fullest(), 18);
    }

    private static void lightest() {
        Sentences.sentence("Promise 16", "The least weight of a choice with a value of at least value (any int)");
        for (int value : new int[] {Sentences.LEAST, Sentences.LEAST + 1, -1000, -51, -1, 0}) {
            due("no goods, value " + value, new KnapsackFamily().lightest(value), 0);
            due("value " + value, heavy(20).lightest(value), 0);
            due("values of 0, value " + value, Sentences.alike(7, 1, 0, 2).lightest(value), 0);
        }
        int[][] rows = {{1, 20}, {49, 20}, {50, 20}, {51, 40}, {100, 40}, {101, 60}, {150, 60}, {151, 80}, {650, 260},
            {651, 280}, {699, 280}, {700, 280}};
        for (int[] row : rows) {
            due("value " + row[0] + ", limit 0", heavy(0).lightest(row[0]), row[1]);
            due("value " + row[0] + ", limit 60", heavy(60).lightest(row[0]), row[1]);
        }
        KnapsackFamily x = Sentences.with(new int[] {9, 5, 1, 0}, new int[] {2, 30, 1, 0}, new int[] {10, 35, 1, 0});
        due("lighter though of greater value", x.lightest(5), 2);
        due("just the value, and lighter than two goods", x.lightest(35), 10);
        due("one more than that value, not strict", x.lightest(36), 12);
        due("just all", x.lightest(70), 21);
    }

    private static void lightestOfNone() {
        Sentences.sentence("Promise 16", "-1 if there is none.");
        due("no goods, value 1", new KnapsackFamily().lightest(1), -1);
        due("no goods, the greatest value", new KnapsackFamily().lightest(Sentences.MOST), -1);
        due("values of 0, value 1", Sentences.alike(7, 1, 0, 2).lightest(1), -1);
        for (int value : new int[] {701, 702, 1000, 1 << 16, (1 << 30) + 1, Sentences.MOST - 1, Sentences.MOST}) {
            due("value " + value, heavy(60).lightest(value), -1);
        }
        for (int goods = 1; goods <= 7; goods++) {
            due("all of " + goods, Sentences.alike(goods, 20, 50, 1).lightest(50 * goods), 20 * goods);
            due("one more than all of " + goods, Sentences.alike(goods, 20, 50, 1).lightest(50 * goods + 1), -1);
        }
    }

    private static void twoLimits() {
        Sentences.sentence("Promise 17", "the first with a weight of at most the limit, the second of at most other.");
        int[][] rows = {{0, 0, 0}, {19, 19, 0}, {20, 19, 50}, {19, 20, 50}, {20, 20, 100}, {0, 20, 50}, {20, 0, 50},
            {0, 60, 150}, {60, 0, 150}, {59, 59, 200}, {60, 59, 250}, {59, 60, 250}, {60, 60, 300}};
        for (int[] row : rows) {
            due("weights of 20, limit " + row[0] + ", other " + row[1], heavy(row[0]).two(row[1]), row[2]);
        }
        rows = new int[][] {{0, 0, 0}, {0, 1, 50}, {1, 0, 50}, {7, 6, 650}, {6, 7, 650}, {7, 7, 700}, {14, 0, 700},
            {0, 14, 700}, {13, 0, 650}, {0, 13, 650}, {60, 60, 700}};
        for (int[] row : rows) {
            due("weights of 1, limit " + row[0] + ", other " + row[1], light(row[0]).two(row[1]), row[2]);
        }
        for (int room = 0; room < 10; room++) {
            KnapsackFamily x = Sentences.limited(Sentences.with(new int[] {10, 7, 1, 0}), room);
            due("room of " + room + " in each for a weight of 10", x.two(room), 0);
            due("room of " + room + " and of 10", x.two(10), 7);
            due("room of 10 and of " + room, Sentences.limited(x, 10).two(room), 7);
        }
        due("the limit at first", Sentences.alike(7, 20, 50, 2).two(20), 100);
    }

    private static void twoFromOneSupply() {
        Sentences.sentence("Promise 17", "The greatest value that two choices can have together "
            + "that take together from no good more than its supply");
        KnapsackFamily once = Sentences.limited(Sentences.with(new int[] {5, 9, 1, 0}), 60);
        due("a supply of 1 is taken once", once.two(60), 9);
        KnapsackFamily twice = Sentences.limited(Sentences.with(new int[] {5, 9, 2, 0}), 60);
        due("a supply of 2 is taken twice", twice.two(60), 18);
        due("both pieces in the first", twice.two(0), 18);
        due("one piece in each", Sentences.limited(twice, 5).two(5), 18);
        due("both pieces in the second", Sentences.limited(twice, 0).two(10), 18);
        due("one piece in the second", Sentences.limited(twice, 4).two(9), 9);
        due("no goods", Sentences.limited(new KnapsackFamily(), 60).two(60), 0);
        due("values of 0", Sentences.alike(7, 1, 0, 2).two(60), 0);
        KnapsackFamily family = Sentences.with(new int[] {1, 3, 1, 2}, new int[] {1, 4, 1, 2}, new int[] {1, 5, 1, 2});
        due("not strict", family.two(0), 12);
    }

    private static void twoTogether() {
        Sentences.sentence("Promise 17", "The greatest value that two choices can have together");
        int[] five = {5, 10, 2, 0};
        int[] ten = {10, 15, 1, 1};
        // The best choice for the first alone is both fives, and leaves nothing for the second.
        due("the first is not the best", Sentences.limited(Sentences.with(five, ten), 10).two(5), 25);
        due("the second is not the best", Sentences.limited(Sentences.with(five, ten), 5).two(10), 25);
        due("both are the best", Sentences.limited(Sentences.with(five, ten), 10).two(10), 35);
        KnapsackFamily x = Sentences.limited(Sentences.alike(7, 20, 50, 2), 60);
        due("asked first", x.two(60), 300);
        due("asked again under less", x.two(0), 150);
        x.drop(0);
        x.limit(0);
        due("asked again under nothing", x.two(0), 0);
    }

    private static void twoLeaveOut() {
        Sentences.sentence("Promise 17", "The greatest value that two choices can have together");
        int[] dear = {10, 50, 1, 0};
        int[] cheap = {10, 1, 1, 1};
        for (int[][] goods : new int[][][] {{dear, cheap}, {cheap, dear}}) {
            due("room for one in the first", Sentences.limited(Sentences.with(goods), 10).two(0), 50);
            due("room for one in the second", Sentences.limited(Sentences.with(goods), 0).two(10), 50);
            due("room for one in the first, nearly two", Sentences.limited(Sentences.with(goods), 19).two(9), 50);
            due("room for one in the second, nearly two", Sentences.limited(Sentences.with(goods), 9).two(19), 50);
            due("room for one in each", Sentences.limited(Sentences.with(goods), 10).two(10), 51);
        }
    }

    private static void twoOutside() {
        Sentences.sentence("Promise 17", "-1 if other is not in 0 .. 60.");
        Sentences.refusedOutside("no goods, other", other -> new KnapsackFamily().two(other), 0, 60, -1);
        Sentences.refusedOutside("limit 0, other", other -> heavy(0).two(other), 0, 60, -1);
        Sentences.refusedOutside("limit 60, other", other -> heavy(60).two(other), 0, 60, -1);
        due("no goods, other 0", new KnapsackFamily().two(0), 0);
        due("no goods, other 60", new KnapsackFamily().two(60), 0);
        due("limit 60, other 0", heavy(60).two(0), 150);
        due("limit 60, other 60", heavy(60).two(60), 300);
    }

    private static void without() {
        Sentences.sentence("Promise 18", "The value of the best choice that fits and takes no piece of a good.");
        for (int goods = 1; goods <= 7; goods++) {
            for (int i = 0; i < goods; i++) {
                KnapsackFamily x = new KnapsackFamily();
                int all = 0;
                for (int at = 0; at < goods; at++) {
                    x.add(1, 10 + at, Sentences.sort(2, 0));
                    all += 2 * (10 + at);
                }
                due("without " + i + " of " + goods, x.without(i), all - 2 * (10 + i));
                due("without " + i + " of " + goods + ", limit 0", Sentences.limited(x, 0).without(i), 0);
                int dearest = i == goods - 1 ? goods - 2 : goods - 1;
                due("without " + i + " of " + goods + ", limit 1", Sentences.limited(x, 1).without(i),
                    dearest < 0 ? 0 : 10 + dearest);
            }
        }
        due("limit 60", heavy(60).without(6), 150);
        due("limit 59", heavy(59).without(0), 100);
        due("61 in all, without 1", sixtyOne(60).without(2), 150);
        due("61 in all, without 20 twice", sixtyOne(21).without(0), 100);
        due("61 in all, without 20 twice, limit 20", sixtyOne(20).without(0), 50);
    }

    private static void withoutNoGood() {
        Sentences.sentence("Promise 18", "-1 if i is not good.");
        Sentences.refusedOutside("no goods, without", i -> new KnapsackFamily().without(i), 0, -1, -1);
        for (int goods = 1; goods <= 7; goods++) {
            int there = goods;
            Sentences.refusedOutside(goods + " goods, without", i -> Sentences.alike(there, 1, 1, 1).without(i),
                0, goods - 1, -1);
            due("without 0 of " + goods, Sentences.alike(goods, 1, 1, 1).without(0), goods - 1);
            due("without the last of " + goods, Sentences.alike(goods, 1, 1, 1).without(goods - 1), goods - 1);
        }
    }

    private static void halves() {
        Sentences.sentence("Promise 19", "1 if all pieces of all goods can be shared among two choices of the same weight "
            + "(each piece in just one), otherwise 0.");
        due("no goods", new KnapsackFamily().halves(), 1);
        for (int weight = 1; weight <= 20; weight++) {
            due("one piece of " + weight, Sentences.alike(1, weight, 0, 1).halves(), 0);
            due("two pieces of " + weight, Sentences.alike(1, weight, 0, 2).halves(), 1);
        }
        for (int goods = 1; goods <= 7; goods++) {
            due(goods + " of 20 once", Sentences.alike(goods, 20, 50, 1).halves(), goods % 2 == 0 ? 1 : 0);
            due(goods + " of 20 twice", Sentences.alike(goods, 20, 50, 2).halves(), 1);
            due(goods + " of 1 once", Sentences.alike(goods, 1, 50, 1).halves(), goods % 2 == 0 ? 1 : 0);
        }
        due("limit 0", heavy(0).halves(), 1);
        due("limit 60", heavy(60).halves(), 1);
    }

    private static int halvesOf(int... weights) {
        KnapsackFamily x = new KnapsackFamily();
        for (int weight : weights) {
            x.add(weight, 0, Sentences.sort(1, 0));
        }
        return x.halves();
    }

    private static void halvesOfSingles() {
        Sentences.sentence("Promise 19", "1 if all pieces of all goods can be shared among two choices of the same weight "
            + "(each piece in just one), otherwise 0.");
        due("1 + 2 = 3", halvesOf(1, 2, 3), 1);
        due("1, 2, 4 is odd", halvesOf(1, 2, 4), 0);
        due("1, 1, 4 is even", halvesOf(1, 1, 4), 0);
        due("20 = 19 + 1", halvesOf(20, 19, 1), 1);
        due("20, 19, 2 is odd", halvesOf(20, 19, 2), 0);
        due("20, 18, 1, 1", halvesOf(20, 18, 1, 1), 1);
        due("20, 10, 9, 3 is even", halvesOf(20, 10, 9, 3), 0);
        due("20 + 1 = 6 + 6 + 3 + 3 + 3", halvesOf(20, 6, 6, 3, 3, 3, 1), 1);
        due("3 + 3 = 6", Sentences.with(new int[] {3, 0, 2, 0}, new int[] {6, 0, 1, 0}).halves(), 1);
        due("2, 2, 2", Sentences.with(new int[] {2, 0, 2, 0}, new int[] {2, 0, 1, 0}).halves(), 0);
        due("pieces of one good on both sides", Sentences.with(new int[] {4, 0, 2, 0}, new int[] {1, 0, 2, 0}).halves(), 1);
        due("the odd one out", Sentences.with(new int[] {4, 0, 2, 0}, new int[] {2, 0, 1, 0}).halves(), 0);
    }

    public static void main(String[] args) {
        goods();
        for (OfCode of : OF_CODES) {
            codesTooLong(of);
            codesAboveASupply(of);
            codesBelowNothing(of);
            codesWhateverTheLimit(of);
        }
        best();
        bestCode();
        bestStrict();
        bestStrictCode();
        fitting();
        weighing();
        weighingOutside();
        fullest();
        lightest();
        lightestOfNone();
        twoLimits();
        twoFromOneSupply();
        twoTogether();
        twoLeaveOut();
        twoOutside();
        without();
        withoutNoGood();
        halves();
        halvesOfSingles();
        Sentences.end();
    }
}
