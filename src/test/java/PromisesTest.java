/** For each promise: ordinary inputs, the edges that the document names, and wrong inputs, with answers worked out by hand. */
public final class PromisesTest {
    private static final int LEAST = Integer.MIN_VALUE;
    private static final int MOST = Integer.MAX_VALUE;
    private static int wrong = 0;

    private static void due(String what, int got, int want) {
        if (got != want) {
            wrong++;
            System.out.println(what + " answered " + got + ", due is " + want);
        }
    }

    private static int sort(int supply, int family) {
        return 4 * supply + family;
    }

    /** Goods of weight, value, supply, family: (4, 10, 2, 0), (6, 15, 1, 1), (3, 2, 1, 0). */
    private static KnapsackFamily three() {
        KnapsackFamily x = new KnapsackFamily();
        x.add(4, 10, sort(2, 0));
        x.add(6, 15, sort(1, 1));
        x.add(3, 2, sort(1, 0));
        return x;
    }

    private static KnapsackFamily full() {
        KnapsackFamily x = new KnapsackFamily();
        for (int i = 0; i < 7; i++) {
            x.add(20, 50, sort(2, i % 4));
        }
        return x;
    }

    private static void promise1NewObject() {
        KnapsackFamily x = new KnapsackFamily();
        due("1: goods of a new object", x.goods(), 0);
        due("1: only the empty choice", x.fitting(), 1);
        due("1: code 0 of no goods", x.weightOf(0), 0);
        due("1: the limit at first", x.limit(5), 20);
        KnapsackFamily y = new KnapsackFamily();
        x.add(1, 1, 4);
        due("1: objects are apart", y.goods(), 0);
        due("1: limits are apart", y.limit(0), 20);
    }

    private static void promise2Add() {
        KnapsackFamily x = new KnapsackFamily();
        for (int weight : new int[] {0, 21, -1, LEAST, MOST}) {
            due("2: weight " + weight, x.add(weight, 0, 4), -1);
        }
        for (int value : new int[] {-1, 51, LEAST, MOST}) {
            due("2: value " + value, x.add(1, value, 4), -2);
        }
        for (int sort : new int[] {0, 1, 3, -1, -4, 12, 13, LEAST, MOST}) {
            due("2: sort " + sort, x.add(1, 0, sort), -3);
        }
        due("2: weight is tested before value", x.add(0, 51, 3), -1);
        due("2: value is tested before sort", x.add(1, 51, 3), -2);
        due("2: refused calls put nothing in", x.goods(), 0);
        due("2: least of all", x.add(1, 0, 4), 0);
        due("2: most of all", x.add(20, 50, 11), 1);
        due("2: weight of supply 1", x.weightOf(3), 1);
        due("2: no second piece of supply 1", x.weightOf(6), -1);
        due("2: weight of two pieces", x.weightOf(2), 40);
        due("2: value of two pieces", x.valueOf(2), 100);
        for (int i = 2; i < 7; i++) {
            due("2: number " + i, x.add(2, 3, 4 + i), i);
        }
        due("2: full", x.add(1, 0, 4), -4);
        due("2: weight before full", x.add(21, 0, 4), -1);
        due("2: value before full", x.add(1, -1, 4), -2);
        due("2: sort before full", x.add(1, 0, 12), -3);
        due("2: still full", x.goods(), 7);
    }

    private static void promise2Sorts() {
        for (int one = 4; one <= 11; one++) {
            for (int other = 4; other <= 11; other++) {
                KnapsackFamily x = new KnapsackFamily();
                x.add(1, 1, one);
                x.add(1, 1, other);
                int supplyOne = one < 8 ? 1 : 2;
                int supplyOther = other < 8 ? 1 : 2;
                boolean sameFamily = (one - other) % 4 == 0;
                int strict = sameFamily ? Math.max(supplyOne, supplyOther) : supplyOne + supplyOther;
                due("2: sorts " + one + ", " + other, x.best(), supplyOne + supplyOther);
                due("2: sorts " + one + ", " + other + " strict", x.bestStrict(), strict);
            }
        }
    }

    private static void promise3Sow() {
        KnapsackFamily x = new KnapsackFamily();
        for (int seed : new int[] {-1, 101, LEAST, MOST}) {
            due("3: seed " + seed, x.sow(seed, 1), -1);
        }
        for (int count : new int[] {0, 8, -1, LEAST, MOST}) {
            due("3: count " + count, x.sow(0, count), -2);
        }
        due("3: seed is tested before count", x.sow(101, 0), -1);
        due("3: refused calls put nothing in", x.goods(), 0);
        // Seed 18: (19, 3, 1, 2), (4, 10, 2, 3), (9, 31, 1, 2).
        due("3: three goods", x.sow(18, 3), 3);
        int[][] pieces = {{9, 19, 3}, {3, 4, 10}, {6, 8, 20}, {1, 9, 31}};
        for (int[] piece : pieces) {
            due("3: weight of code " + piece[0], x.weightOf(piece[0]), piece[1]);
            due("3: value of code " + piece[0], x.valueOf(piece[0]), piece[2]);
        }
        due("3: supply of good 0", x.weightOf(18), -1);
        due("3: supply of good 2", x.weightOf(2), -1);
        x.limit(60);
        due("3: families", x.bestStrict(), 51);
        // Seed 100 once more from k = 0: (1, 45, 1, 0), (6, 1, 2, 1).
        due("3: more are added behind", x.sow(100, 2), 5);
        due("3: weight of good 3", x.weightOf(3), 1);
        due("3: value of good 3", x.valueOf(3), 45);
        due("3: weight of good 4", x.weightOf(2), 12);
        due("3: value of good 4", x.valueOf(2), 2);
        due("3: as long as there is room", x.sow(0, 7), 7);
        due("3: weight of the last", x.weightOf(1), 6);
        due("3: no room", x.sow(3, 4), 7);
        due("3: no room for one", x.sow(3, 1), 7);
        due("3: seed before room", x.sow(-1, 4), -1);
        due("3: count before room", x.sow(3, 0), -2);
        KnapsackFamily y = new KnapsackFamily();
        due("3: the least count", y.sow(0, 1), 1);
        due("3: the least good", y.weightOf(1), 1);
        due("3: the greatest count", new KnapsackFamily().sow(100, 7), 7);
        // Seed 1, k = 3: weight 1 + 16, value 66 - 51, supply 1; k = 4: weight 1 + 21 - 20, value 115 - 102, supply 2.
        KnapsackFamily z = new KnapsackFamily();
        due("3: five goods", z.sow(1, 5), 5);
        due("3: weight of good k = 3", z.weightOf(3), 17);
        due("3: value of good k = 3", z.valueOf(3), 15);
        due("3: supply of good k = 3", z.weightOf(6), -1);
        due("3: weight of good k = 4", z.weightOf(2), 4);
        due("3: value of good k = 4", z.valueOf(2), 26);
    }

    private static void promise4Drop() {
        KnapsackFamily x = three();
        for (int i : new int[] {-1, 3, 7, LEAST, MOST}) {
            due("4: drop " + i, x.drop(i), -1);
        }
        due("4: refused calls take nothing out", x.goods(), 3);
        due("4: the first", x.drop(0), 2);
        due("4: weight of good 0 now", x.weightOf(3), 6);
        due("4: value of good 0 now", x.valueOf(3), 15);
        due("4: supply of good 0 now", x.weightOf(6), -1);
        due("4: weight of good 1 now", x.weightOf(1), 3);
        due("4: no third good", x.drop(2), -1);
        due("4: the last", x.drop(1), 1);
        due("4: good 0 stays", x.weightOf(1), 6);
        due("4: the only one", x.drop(0), 0);
        due("4: none is left", x.drop(0), -1);
        KnapsackFamily y = full();
        due("4: from a full list", y.drop(6), 6);
        due("4: there is room again", y.add(1, 1, 4), 6);
        due("4: the middle", y.drop(3), 6);
        due("4: the last has moved", y.weightOf(1), 1);
        KnapsackFamily z = three();
        z.drop(1);
        due("4: families move too", z.bestStrict(), 20);
        z.add(1, 7, sort(2, 1));
        due("4: a new one has its own family", z.bestStrict(), 34);
    }

    private static void promise5Limit() {
        KnapsackFamily x = three();
        for (int limit : new int[] {-1, 61, LEAST, MOST}) {
            due("5: limit " + limit, x.limit(limit), -1);
        }
        due("5: refused calls change nothing", x.limit(0), 20);
        due("5: nothing fits", x.best(), 0);
        due("5: the least", x.limit(60), 0);
        due("5: all fits", x.best(), 37);
        due("5: the most", x.limit(4), 60);
        due("5: just fits", x.best(), 10);
        x.drop(0);
        due("5: drop leaves the limit", x.limit(4), 4);
    }

    private static void promise6Goods() {
        KnapsackFamily x = new KnapsackFamily();
        due("6: none", x.goods(), 0);
        x.add(1, 1, 4);
        due("6: one", x.goods(), 1);
        x.sow(1, 4);
        due("6: five", x.goods(), 5);
        x.drop(2);
        due("6: four", x.goods(), 4);
        due("6: full", full().goods(), 7);
    }

    private static void promises7And8WeightAndValue() {
        // Codes in base 3: 211 = 22, 100 = 9, 010 = 3, 001 = 1, 002 = 2, 020 = 6.
        KnapsackFamily x = three();
        int[][] rows = {
            {0, 0, 0}, {1, 3, 2}, {2, -1, -1}, {3, 6, 15}, {4, 9, 17}, {6, -1, -1}, {9, 4, 10},
            {18, 8, 20}, {22, 17, 37}, {23, -1, -1}, {25, -1, -1}, {26, -1, -1}, {27, -1, -1}, {28, -1, -1},
            {-1, -1, -1}, {-9, -1, -1}, {LEAST, -1, -1}, {MOST, -1, -1}
        };
        for (int[] row : rows) {
            due("7: code " + row[0], x.weightOf(row[0]), row[1]);
            due("8: code " + row[0], x.valueOf(row[0]), row[2]);
        }
        x.limit(0);
        due("7: the limit plays no part", x.weightOf(22), 17);
        due("8: the limit plays no part", x.valueOf(22), 37);
        KnapsackFamily none = new KnapsackFamily();
        due("7: no goods", none.weightOf(1), -1);
        due("8: no goods", none.valueOf(1), -1);
        due("8: the empty choice of no goods", none.valueOf(0), 0);
        due("7: the greatest code", full().weightOf(2186), 280);
        due("8: the greatest code", full().valueOf(2186), 700);
        due("7: beyond the greatest code", full().weightOf(2187), -1);
        due("8: beyond the greatest code", full().valueOf(2187), -1);
    }

    private static void promises9And10Best() {
        KnapsackFamily x = three();
        int[][] rows = {{0, 0, 0}, {2, 0, 0}, {3, 2, 1}, {4, 10, 9}, {6, 15, 3}, {8, 20, 18}, {9, 20, 18},
            {10, 25, 12}, {13, 27, 13}, {14, 35, 21}, {16, 35, 21}, {17, 37, 22}, {60, 37, 22}};
        for (int[] row : rows) {
            x.limit(row[0]);
            due("9: limit " + row[0], x.best(), row[1]);
            due("10: limit " + row[0], x.bestCode(), row[2]);
        }
        KnapsackFamily lighter = new KnapsackFamily();
        lighter.add(9, 5, sort(1, 0));
        lighter.add(8, 5, sort(1, 0));
        lighter.limit(9);
        due("10: with the same value the lighter", lighter.bestCode(), 1);
        lighter.drop(0);
        lighter.add(9, 5, sort(1, 0));
        due("10: the lighter though its code is greater", lighter.bestCode(), 3);
        KnapsackFamily alike = new KnapsackFamily();
        alike.add(9, 5, sort(2, 0));
        alike.add(9, 5, sort(2, 0));
        due("10: alike, the lesser code", alike.bestCode(), 2);
        KnapsackFamily worthless = new KnapsackFamily();
        worthless.add(1, 0, sort(2, 0));
        due("10: pieces without value are left", worthless.bestCode(), 0);
        due("9: no goods", new KnapsackFamily().best(), 0);
        due("10: no goods", new KnapsackFamily().bestCode(), 0);
        due("9: seven goods", full().best(), 50);
        due("10: seven goods", full().bestCode(), 1);
    }

    private static void promises11And12BestStrict() {
        KnapsackFamily x = three();
        int[][] rows = {{0, 0, 0}, {3, 2, 1}, {7, 15, 3}, {9, 20, 18}, {13, 25, 12}, {14, 35, 21}, {17, 35, 21}, {60, 35, 21}};
        for (int[] row : rows) {
            x.limit(row[0]);
            due("11: limit " + row[0], x.bestStrict(), row[1]);
            due("12: limit " + row[0], x.bestStrictCode(), row[2]);
        }
        due("11: not strict beside it", x.best(), 37);
        KnapsackFamily family = new KnapsackFamily();
        family.add(5, 10, sort(2, 3));
        family.add(5, 10, sort(2, 3));
        family.add(4, 20, sort(1, 3));
        due("11: two pieces of one good are strict", family.bestStrict(), 20);
        due("12: with the same value the lighter", family.bestStrictCode(), 1);
        family.drop(2);
        due("12: alike, the lesser code", family.bestStrictCode(), 2);
        KnapsackFamily four = new KnapsackFamily();
        for (int i = 0; i < 7; i++) {
            four.add(1, 1 + i, sort(2, i % 4));
        }
        due("11: the best of each family", four.bestStrict(), 44);
        due("12: the best of each family", four.bestStrictCode(), 80);
        due("11: no goods", new KnapsackFamily().bestStrict(), 0);
        due("12: no goods", new KnapsackFamily().bestStrictCode(), 0);
    }

    private static void promise13Fitting() {
        // Weights of the choices: 0 3 4 6 7 8 9 10 11 13 14 17, each once.
        KnapsackFamily x = three();
        int[][] rows = {{0, 1}, {2, 1}, {3, 2}, {4, 3}, {9, 7}, {12, 9}, {16, 11}, {17, 12}, {60, 12}};
        for (int[] row : rows) {
            x.limit(row[0]);
            due("13: limit " + row[0], x.fitting(), row[1]);
        }
        due("13: seven goods", full().fitting(), 8);
    }

    private static void promise14Weighing() {
        KnapsackFamily x = three();
        x.limit(0);
        for (int weight : new int[] {-1, 301, LEAST, MOST}) {
            due("14: weight " + weight, x.weighing(weight), -1);
        }
        int[][] rows = {{0, 1}, {1, 0}, {3, 1}, {5, 0}, {12, 0}, {13, 1}, {17, 1}, {18, 0}, {300, 0}};
        for (int[] row : rows) {
            due("14: weight " + row[0], x.weighing(row[0]), row[1]);
        }
        due("14: one piece", full().weighing(20), 7);
        due("14: two pieces", full().weighing(40), 28);
        due("14: all but one", full().weighing(260), 7);
        due("14: all", full().weighing(280), 1);
    }

    private static void promise15Fullest() {
        KnapsackFamily x = three();
        int[][] rows = {{0, 0}, {2, 0}, {3, 3}, {5, 4}, {12, 11}, {16, 14}, {17, 17}, {60, 17}};
        for (int[] row : rows) {
            x.limit(row[0]);
            due("15: limit " + row[0], x.fullest(), row[1]);
        }
        due("15: no goods", new KnapsackFamily().fullest(), 0);
        KnapsackFamily y = full();
        y.limit(59);
        due("15: seven goods", y.fullest(), 40);
    }

    private static void promise16Lightest() {
        KnapsackFamily x = three();
        x.limit(0);
        int[][] rows = {{LEAST, 0}, {-1, 0}, {0, 0}, {1, 3}, {2, 3}, {3, 4}, {10, 4}, {11, 6}, {16, 8},
            {17, 8}, {21, 10}, {26, 13}, {28, 14}, {36, 17}, {37, 17}, {38, -1}, {MOST, -1}};
        for (int[] row : rows) {
            due("16: value " + row[0], x.lightest(row[0]), row[1]);
        }
        due("16: the most there is", full().lightest(700), 280);
        due("16: no goods", new KnapsackFamily().lightest(1), -1);
        due("16: no goods, no value", new KnapsackFamily().lightest(0), 0);
    }

    private static void promise17Two() {
        KnapsackFamily x = three();
        for (int other : new int[] {-1, 61, LEAST, MOST}) {
            due("17: other " + other, x.two(other), -1);
        }
        // Rows: limit, other, due.
        int[][] rows = {{0, 0, 0}, {20, 0, 37}, {0, 20, 37}, {60, 60, 37}, {4, 4, 20}, {4, 6, 25}, {6, 4, 25},
            {6, 6, 25}, {6, 8, 35}, {7, 7, 27}, {10, 6, 35}, {10, 7, 37}, {3, 3, 2}, {3, 4, 12}, {8, 8, 35}, {8, 9, 37}, {2, 60, 37}};
        for (int[] row : rows) {
            x.limit(row[0]);
            due("17: limit " + row[0] + ", other " + row[1], x.two(row[1]), row[2]);
        }
        due("17: the limit is left alone", x.limit(20), 2);
        due("17: no goods", new KnapsackFamily().two(60), 0);
        KnapsackFamily y = full();
        y.limit(60);
        due("17: seven goods", y.two(60), 300);
        due("17: asked again", y.two(59), 250);
        KnapsackFamily one = new KnapsackFamily();
        one.add(5, 9, sort(1, 0));
        due("17: one piece goes to one of them", one.two(20), 9);
        one.add(5, 9, sort(1, 0));
        one.limit(5);
        due("17: not strict", one.two(5), 18);
    }

    private static void promise18Without() {
        KnapsackFamily x = three();
        for (int i : new int[] {-1, 3, 7, LEAST, MOST}) {
            due("18: without " + i, x.without(i), -1);
        }
        // Rows: limit, then without good 0, 1 and 2.
        int[][] rows = {{60, 17, 22, 35}, {9, 17, 20, 20}, {8, 15, 20, 20}, {4, 2, 10, 10}, {3, 2, 2, 0}, {0, 0, 0, 0}};
        for (int[] row : rows) {
            x.limit(row[0]);
            for (int i = 0; i < 3; i++) {
                due("18: limit " + row[0] + ", without " + i, x.without(i), row[i + 1]);
            }
        }
        due("18: the good stays", x.goods(), 3);
        due("18: the last of seven", full().without(6), 50);
        due("18: no goods", new KnapsackFamily().without(0), -1);
        KnapsackFamily one = new KnapsackFamily();
        one.add(1, 50, sort(2, 0));
        due("18: the only one", one.without(0), 0);
    }

    private static void promise19Halves() {
        due("19: an odd weight in all", three().halves(), 0);
        due("19: no goods", new KnapsackFamily().halves(), 1);
        KnapsackFamily x = new KnapsackFamily();
        x.add(6, 0, sort(1, 0));
        due("19: one piece", x.halves(), 0);
        x.add(3, 0, sort(2, 0));
        due("19: one good against the other", x.halves(), 1);
        x.add(5, 0, sort(2, 0));
        due("19: a good split between them", x.halves(), 1);
        x.add(1, 0, sort(1, 0));
        due("19: odd", x.halves(), 0);
        x.add(1, 0, sort(1, 0));
        x.limit(0);
        due("19: the limit plays no part", x.halves(), 1);
        KnapsackFamily y = new KnapsackFamily();
        y.add(20, 0, sort(1, 0));
        y.add(5, 0, sort(2, 0));
        due("19: even, but it can't be shared", y.halves(), 0);
        due("19: seven goods of two pieces", full().halves(), 1);
    }

    /** The longest life that is promised: 512 calls, the last ones as good as the first. */
    private static void wholeLife() {
        KnapsackFamily x = three();
        for (int call = 3; call < 511; call += 2) {
            due("life: two in call " + call, x.two(6), 37);
            due("life: best after call " + call, x.best(), 37);
        }
    }

    public static void main(String[] args) {
        promise1NewObject();
        promise2Add();
        promise2Sorts();
        promise3Sow();
        promise4Drop();
        promise5Limit();
        promise6Goods();
        promises7And8WeightAndValue();
        promises9And10Best();
        promises11And12BestStrict();
        promise13Fitting();
        promise14Weighing();
        promise15Fullest();
        promise16Lightest();
        promise17Two();
        promise18Without();
        promise19Halves();
        wholeLife();
        System.out.println(wrong == 0 ? "all answers are as due" : wrong + " answers are not as due");
        if (wrong != 0) {
            System.exit(1);
        }
    }
}
