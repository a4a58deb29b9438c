/** The sentences of the promises 1 to 5, a new object and the methods that change it, at their bounds. */
public final class ChangesTest {
    private static void due(String what, int got, int want) {
        Sentences.due(what, got, want);
    }

    private static void newObject() {
        Sentences.sentence("Promise 1", "No goods.");
        due("goods", new KnapsackFamily().goods(), 0);
        due("limit", new KnapsackFamily().limit(60), 20);
        due("drop", new KnapsackFamily().drop(0), -1);
        due("weightOf(0)", new KnapsackFamily().weightOf(0), 0);
        due("valueOf(0)", new KnapsackFamily().valueOf(0), 0);
        due("weightOf(1)", new KnapsackFamily().weightOf(1), -1);
        due("valueOf(1)", new KnapsackFamily().valueOf(1), -1);
        due("best", new KnapsackFamily().best(), 0);
        due("bestCode", new KnapsackFamily().bestCode(), 0);
        due("bestStrict", new KnapsackFamily().bestStrict(), 0);
        due("bestStrictCode", new KnapsackFamily().bestStrictCode(), 0);
        due("fitting", new KnapsackFamily().fitting(), 1);
        due("weighing(0)", new KnapsackFamily().weighing(0), 1);
        due("weighing(1)", new KnapsackFamily().weighing(1), 0);
        due("fullest", new KnapsackFamily().fullest(), 0);
        due("lightest(0)", new KnapsackFamily().lightest(0), 0);
        due("lightest(1)", new KnapsackFamily().lightest(1), -1);
        due("two(60)", new KnapsackFamily().two(60), 0);
        due("without(0)", new KnapsackFamily().without(0), -1);
        due("halves", new KnapsackFamily().halves(), 1);
    }

    private static void newObjectBesideAnOther() {
        Sentences.sentence("Promise 1", "No goods.");
        KnapsackFamily one = Sentences.limited(Sentences.alike(7, 20, 50, 2), 60);
        KnapsackFamily other = new KnapsackFamily();
        due("goods of a second object", other.goods(), 0);
        due("first number in a second object", other.add(1, 2, 4), 0);
        due("limit of a second object", other.limit(1), 20);
        due("goods of the first", one.goods(), 7);
        due("limit of the first", one.limit(60), 60);
        due("weight in the first", one.weightOf(1), 20);
    }

    private static void addPutsIn() {
        Sentences.sentence("Promise 2", "Puts a good in.");
        for (int goods = 0; goods < 7; goods++) {
            KnapsackFamily x = Sentences.alike(goods, 13, 37, 1);
            due("add to " + goods, x.add(20, 50, 11), goods);
            due("goods after add to " + goods, x.goods(), goods + 1);
            due("weight of the new good", x.weightOf(1), 20);
            due("value of the new good", x.valueOf(1), 50);
            due("two of the new good", x.weightOf(2), 40);
            for (int i = 0; i < goods; i++) {
                due("weight of good " + i + " from before", x.weightOf(Sentences.only(goods + 1, i, 1)), 13);
                due("value of good " + i + " from before", x.valueOf(Sentences.only(goods + 1, i, 1)), 37);
                due("two of good " + i + " from before", x.weightOf(Sentences.only(goods + 1, i, 2)), -1);
            }
        }
    }

    private static void addWeight() {
        Sentences.sentence("Promise 2", "-1 if weight is not in 1 .. 20");
        for (int goods = 0; goods <= 7; goods++) {
            int there = goods;
            Sentences.refusedOutside(goods + " goods, weight", weight -> Sentences.alike(there, 2, 2, 2).add(weight, 0, 4),
                1, 20, -1);
            due("weight 1", Sentences.alike(goods, 2, 2, 2).add(1, 0, 4), goods < 7 ? goods : -4);
            due("weight 20", Sentences.alike(goods, 2, 2, 2).add(20, 0, 4), goods < 7 ? goods : -4);
        }
    }

    private static void addValue() {
        Sentences.sentence("Promise 2", "-2 if value is not in 0 .. 50");
        for (int goods = 0; goods <= 7; goods++) {
            int there = goods;
            Sentences.refusedOutside(goods + " goods, value", value -> Sentences.alike(there, 2, 2, 2).add(1, value, 4),
                0, 50, -2);
            due("value 0", Sentences.alike(goods, 2, 2, 2).add(1, 0, 4), goods < 7 ? goods : -4);
            due("value 50", Sentences.alike(goods, 2, 2, 2).add(1, 50, 4), goods < 7 ? goods : -4);
        }
    }

    private static void addSort() {
        Sentences.sentence("Promise 2", "-3 if supply is not 1 or 2, or family is not in 0 .. 3 "
            + "(sort is 4 * supply + family; a sort that is not such a number is refused)");
        for (int goods = 0; goods <= 7; goods++) {
            int there = goods;
            Sentences.refusedOutside(goods + " goods, sort", sort -> Sentences.alike(there, 2, 2, 2).add(1, 0, sort),
                4, 11, -3);
        }
        for (int sort = -40; sort <= 40; sort++) {
            due("sort " + sort, new KnapsackFamily().add(1, 0, sort), 4 <= sort && sort <= 11 ? 0 : -3);
        }
        for (int shift = 3; shift < 32; shift++) {
            due("sort 4 + 2^" + shift, new KnapsackFamily().add(1, 0, 4 + (1 << shift)), -3);
            due("sort 11 - 2^" + shift, new KnapsackFamily().add(1, 0, 11 - (1 << shift)), -3);
        }
    }

    private static void addToSeven() {
        Sentences.sentence("Promise 2", "-4 if there are 7 goods; otherwise answers its number.");
        KnapsackFamily x = new KnapsackFamily();
        for (int i = 0; i < 7; i++) {
            due("good " + i, x.add(1, 0, 4), i);
        }
        due("an eighth", x.add(1, 0, 4), -4);
        due("an eighth again", x.add(20, 50, 11), -4);
        due("a place made", x.drop(0), 6);
        due("in the place made", x.add(20, 50, 11), 6);
        due("no place again", x.add(20, 50, 11), -4);
        due("seven sown", new KnapsackFamily().sow(0, 7), 7);
        KnapsackFamily sown = new KnapsackFamily();
        sown.sow(0, 7);
        due("after seven sown", sown.add(1, 0, 4), -4);
        KnapsackFamily six = new KnapsackFamily();
        six.sow(0, 6);
        due("after six sown", six.add(1, 0, 4), 6);
    }

    private static void addOrder() {
        Sentences.sentence("Terms", "In every method the tests are made in the order named");
        int[][] weights = {{1, 20}, {0, 21, Sentences.LEAST, Sentences.MOST}};
        int[][] values = {{0, 50}, {-1, 51, Sentences.LEAST, Sentences.MOST}};
        int[][] sorts = {{4, 11}, {3, 12, Sentences.LEAST, Sentences.MOST}};
        for (int bad = 0; bad < 16; bad++) {
            int due = (bad & 1) != 0 ? -1 : (bad & 2) != 0 ? -2 : (bad & 4) != 0 ? -3 : (bad & 8) != 0 ? -4 : 6;
            for (int weight : weights[bad & 1]) {
                for (int value : values[bad >> 1 & 1]) {
                    for (int sort : sorts[bad >> 2 & 1]) {
                        KnapsackFamily x = Sentences.alike(6 + (bad >> 3), 1, 1, 1);
                        due("add(" + weight + ", " + value + ", " + sort + ") with " + x.goods() + " goods",
                            x.add(weight, value, sort), due);
                    }
                }
            }
        }
    }

    private static void sowSeed() {
        Sentences.sentence("Promise 3", "-1 if seed is not in 0 .. 100");
        for (int goods = 0; goods <= 7; goods += 7) {
            int there = goods;
            for (int count : new int[] {1, 7, 0, 8, Sentences.LEAST, Sentences.MOST}) {
                Sentences.refusedOutside("count " + count + ", seed",
                    seed -> Sentences.alike(there, 2, 2, 2).sow(seed, count), 0, 100, -1);
            }
        }
        due("seed 0", new KnapsackFamily().sow(0, 1), 1);
        due("seed 100", new KnapsackFamily().sow(100, 1), 1);
    }

    private static void sowCount() {
        Sentences.sentence("Promise 3", "-2 if count is not in 1 .. 7");
        for (int goods = 0; goods <= 7; goods++) {
            int there = goods;
            for (int seed : new int[] {0, 100}) {
                Sentences.refusedOutside("seed " + seed + ", count",
                    count -> Sentences.alike(there, 2, 2, 2).sow(seed, count), 1, 7, -2);
            }
        }
    }

    private static void sowWhileThereIsRoom() {
        Sentences.sentence("Promise 3", "Puts up to count goods in, as long as there is room");
        for (int goods = 0; goods <= 7; goods++) {
            for (int count = 1; count <= 7; count++) {
                int after = Math.min(7, goods + count);
                KnapsackFamily x = Sentences.alike(goods, 13, 37, 1);
                due(goods + " goods, sow of " + count, x.sow(0, count), after);
                due(goods + " goods, goods after sow of " + count, x.goods(), after);
                for (int i = 0; i < goods; i++) {
                    due("good " + i + " from before", x.weightOf(Sentences.only(after, i, 1)), 13);
                }
                // Seed 0: the weights are 1, 6, 11, 16, 1, 6, 11.
                for (int i = goods; i < after; i++) {
                    due("good " + i + " sown", x.weightOf(Sentences.only(after, i, 1)), 1 + 5 * ((i - goods) % 4));
                }
            }
        }
    }

    private static void sowInRows() {
        Sentences.sentence("Promise 3", "otherwise answers how many goods there are.");
        KnapsackFamily x = new KnapsackFamily();
        due("one", x.sow(3, 1), 1);
        due("two more", x.sow(3, 2), 3);
        due("four more", x.sow(3, 4), 7);
        due("none more", x.sow(3, 1), 7);
        due("none of seven more", x.sow(100, 7), 7);
        due("after a drop", x.drop(6), 6);
        due("one of seven more", x.sow(100, 7), 7);
        // Good 0 of the seed 100 has the weight 1, the value 300 - 5 * 51 and the supply 1.
        due("k begins at 0 in each call: weight", x.weightOf(1), 1);
        due("k begins at 0 in each call: value", x.valueOf(1), 45);
        due("k begins at 0 in each call: supply", x.weightOf(2), -1);
    }

    private static void sowWraps() {
        Sentences.sentence("Promise 3", "good k (k = 0, 1, ..) has the weight 1 + (seed + 5 * k) modulo 20, "
            + "the value (seed * 3 + 7 * k * k) modulo 51, the supply 1 + (seed + k) modulo 2, "
            + "and the family (seed + k * k) modulo 4.");
        // Rows: seed, k, weight, value, supply.
        int[][] rows = {
            {0, 0, 1, 0, 1}, {19, 0, 20, 6, 2}, {20, 0, 1, 9, 1}, {16, 0, 17, 48, 1}, {17, 0, 18, 0, 2}, {18, 0, 19, 3, 1},
            {14, 1, 20, 49, 2}, {15, 1, 1, 1, 1}, {0, 3, 16, 12, 2}, {0, 4, 1, 10, 1}, {39, 0, 20, 15, 2},
            {40, 0, 1, 18, 1}, {99, 0, 20, 42, 2}, {100, 0, 1, 45, 1}, {100, 6, 11, 42, 1}, {99, 6, 10, 39, 2}, {0, 6, 11, 48, 1}
        };
        for (int[] row : rows) {
            KnapsackFamily x = new KnapsackFamily();
            x.sow(row[0], row[1] + 1);
            String good = "seed " + row[0] + ", good " + row[1] + ": ";
            due(good + "weight", x.weightOf(1), row[2]);
            due(good + "value", x.valueOf(1), row[3]);
            due(good + "weight of two", x.weightOf(2), row[4] == 2 ? 2 * row[2] : -1);
        }
    }

    private static void sowEverySeed() {
        Sentences.sentence("Promise 3", "good k (k = 0, 1, ..) has the weight 1 + (seed + 5 * k) modulo 20, "
            + "the value (seed * 3 + 7 * k * k) modulo 51, the supply 1 + (seed + k) modulo 2, "
            + "and the family (seed + k * k) modulo 4.");
        for (int seed = 0; seed <= 100; seed++) {
            for (int k = 0; k < 7; k++) {
                KnapsackFamily x = new KnapsackFamily();
                x.sow(seed, 7);
                String good = "seed " + seed + ", good " + k + ": ";
                int weight = 1 + Math.floorMod(seed + 5 * k, 20);
                int value = Math.floorMod(seed * 3 + 7 * k * k, 51);
                boolean twice = Math.floorMod(seed + k, 2) == 1;
                due(good + "weight", x.weightOf(Sentences.only(7, k, 1)), weight);
                due(good + "value", x.valueOf(Sentences.only(7, k, 1)), value);
                due(good + "value of two", x.valueOf(Sentences.only(7, k, 2)), twice ? 2 * value : -1);
                familyOfSown(seed, k, twice ? 2 * value : value);
            }
        }
    }

    /** A good of each family in turn is put beside good k: only one of good k's own family bars it. */
    private static void familyOfSown(int seed, int k, int whole) {
        for (int family = 0; family < 4; family++) {
            KnapsackFamily x = new KnapsackFamily();
            x.sow(seed, k + 1);
            Sentences.keepTwo(x, k, k);
            x.add(1, 50, Sentences.sort(1, family));
            Sentences.limited(x, 60);
            boolean same = Math.floorMod(seed + k * k, 4) == family;
            due("seed " + seed + ", good " + k + " beside family " + family, x.bestStrict(),
                same ? Math.max(50, whole) : 50 + whole);
        }
    }

    private static void sowOrder() {
        Sentences.sentence("Terms", "In every method the tests are made in the order named");
        for (int goods = 0; goods <= 7; goods += 7) {
            for (int seed : new int[] {-1, 101, Sentences.LEAST, Sentences.MOST}) {
                for (int count : new int[] {0, 8, Sentences.LEAST, Sentences.MOST}) {
                    due("sow(" + seed + ", " + count + ")", Sentences.alike(goods, 1, 1, 1).sow(seed, count), -1);
                }
            }
            due("sow(100, 8)", Sentences.alike(goods, 1, 1, 1).sow(100, 8), -2);
            due("sow(0, 0)", Sentences.alike(goods, 1, 1, 1).sow(0, 0), -2);
            due("sow(101, 7)", Sentences.alike(goods, 1, 1, 1).sow(101, 7), -1);
            due("sow(-1, 1)", Sentences.alike(goods, 1, 1, 1).sow(-1, 1), -1);
        }
    }

    private static KnapsackFamily apart(int goods) {
        KnapsackFamily x = new KnapsackFamily();
        for (int i = 0; i < goods; i++) {
            x.add(1 + i, 40 + i, Sentences.sort(1 + i % 2, i / 2));
        }
        return x;
    }

    private static void dropMovesTheLater() {
        Sentences.sentence("Promise 4", "Takes a good out; later ones get numbers less by one.");
        for (int goods = 1; goods <= 7; goods++) {
            for (int out = 0; out < goods; out++) {
                KnapsackFamily x = apart(goods);
                due("drop " + out + " of " + goods, x.drop(out), goods - 1);
                due("goods after drop " + out + " of " + goods, x.goods(), goods - 1);
                due("a code as long as before", x.weightOf(Sentences.tooLong(goods - 1)), -1);
                for (int i = 0; i < goods - 1; i++) {
                    int was = i < out ? i : i + 1;
                    String which = "drop " + out + " of " + goods + ", good " + was + ": ";
                    due(which + "weight", x.weightOf(Sentences.only(goods - 1, i, 1)), 1 + was);
                    due(which + "value", x.valueOf(Sentences.only(goods - 1, i, 1)), 40 + was);
                    due(which + "two", x.weightOf(Sentences.only(goods - 1, i, 2)), was % 2 == 1 ? 2 * (1 + was) : -1);
                }
            }
        }
    }

    private static void dropMovesFamilies() {
        Sentences.sentence("Promise 4", "Takes a good out; later ones get numbers less by one.");
        for (int i = 0; i < 7; i++) {
            for (int j = i + 1; j < 7; j++) {
                KnapsackFamily x = apart(7);
                Sentences.keepTwo(x, i, j);
                Sentences.limited(x, 60);
                int first = (40 + i) * (1 + i % 2);
                int second = (40 + j) * (1 + j % 2);
                due("goods " + i + " and " + j + " left", x.bestStrict(),
                    i / 2 == j / 2 ? Math.max(first, second) : first + second);
            }
        }
    }

    private static void dropIsSeenByEveryQuestion() {
        Sentences.sentence("Promise 4", "Takes a good out; later ones get numbers less by one.");
        KnapsackFamily twice = Sentences.limited(Sentences.alike(7, 1, 50, 2), 60);
        KnapsackFamily once = Sentences.alike(7, 20, 50, 1);
        for (int left = 6; left >= 0; left--) {
            String after = " with " + left + " left";
            due("drop" + after, twice.drop(left / 2), left);
            due("best" + after, twice.best(), 100 * left);
            due("bestCode" + after, twice.bestCode(), Sentences.tooLong(left) - 1);
            due("fitting" + after, twice.fitting(), Sentences.tooLong(left));
            due("weighing of all" + after, twice.weighing(2 * left), 1);
            due("weighing of more than all" + after, twice.weighing(2 * left + 1), 0);
            due("fullest" + after, twice.fullest(), 2 * left);
            due("lightest of all" + after, twice.lightest(100 * left), 2 * left);
            due("lightest of more than all" + after, twice.lightest(100 * left + 1), -1);
            due("two" + after, twice.two(60), 100 * left);
            due("without" + after, twice.without(0), left == 0 ? -1 : 100 * (left - 1));
            due("drop of the last" + after, once.drop(left), left);
            due("halves" + after, once.halves(), left % 2 == 0 ? 1 : 0);
        }
        due("bestStrict with none left", twice.bestStrict(), 0);
        due("bestStrictCode with none left", twice.bestStrictCode(), 0);
    }

    private static void dropOfNoGood() {
        Sentences.sentence("Promise 4", "-1 if i is not good; otherwise answers how many are left.");
        for (int goods = 0; goods <= 7; goods++) {
            int there = goods;
            if (goods > 0) {
                Sentences.refusedOutside(goods + " goods, drop", i -> Sentences.alike(there, 1, 1, 1).drop(i),
                    0, goods - 1, -1);
            }
            due("drop -1", Sentences.alike(goods, 1, 1, 1).drop(-1), -1);
            due("drop of the first number that is free", Sentences.alike(goods, 1, 1, 1).drop(goods), -1);
            KnapsackFamily x = Sentences.alike(goods, 1, 1, 1);
            for (int left = goods - 1; left >= 0; left--) {
                due("drop 0 down to " + left, x.drop(0), left);
            }
            due("drop when none is left", x.drop(0), -1);
            due("goods when none is left", x.goods(), 0);
        }
        Sentences.refusedOutside("no goods, drop", i -> new KnapsackFamily().drop(i), 0, -1, -1);
    }

    private static void limitOutside() {
        Sentences.sentence("Promise 5", "-1 if limit is not in 0 .. 60; otherwise answers the one before.");
        Sentences.refusedOutside("limit", limit -> new KnapsackFamily().limit(limit), 0, 60, -1);
        KnapsackFamily x = new KnapsackFamily();
        int before = 20;
        for (int limit : new int[] {0, 60, 60, 0, 0, 1, 59, 20, 60}) {
            due("limit " + limit, x.limit(limit), before);
            due("limit -1 after " + limit, x.limit(-1), -1);
            due("limit 61 after " + limit, x.limit(61), -1);
            before = limit;
        }
        for (int limit = 0; limit <= 60; limit++) {
            KnapsackFamily y = new KnapsackFamily();
            due("limit " + limit + " at first", y.limit(limit), 20);
            due("limit before is " + limit, y.limit(0), limit);
        }
    }

    private static void limitSets() {
        Sentences.sentence("Promise 5", "Sets the limit.");
        KnapsackFamily x = Sentences.alike(7, 20, 50, 2);
        int[][] rows = {{0, 0}, {19, 0}, {20, 50}, {39, 50}, {40, 100}, {59, 100}, {60, 150}, {0, 0}};
        for (int[] row : rows) {
            x.limit(row[0]);
            due("best under " + row[0], x.best(), row[1]);
        }
        x.limit(33);
        x.drop(0);
        x.add(1, 1, 4);
        x.drop(0);
        x.sow(1, 1);
        due("goods that come and go leave the limit", x.limit(0), 33);
        while (x.goods() > 0) {
            x.drop(0);
        }
        due("a list that is empty again leaves the limit", x.limit(60), 0);
    }

    public static void main(String[] args) {
        newObject();
        newObjectBesideAnOther();
        addPutsIn();
        addWeight();
        addValue();
        addSort();
        addToSeven();
        addOrder();
        sowSeed();
        sowCount();
        sowWhileThereIsRoom();
        sowInRows();
        sowWraps();
        sowEverySeed();
        sowOrder();
        dropMovesTheLater();
        dropMovesFamilies();
        dropIsSeenByEveryQuestion();
        dropOfNoGood();
        limitOutside();
        limitSets();
        Sentences.end();
    }
}
