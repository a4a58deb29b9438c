/** The sentences under "Terms" that say what goods, choices, codes, "strict", "fits" and "better" are, at their bounds. */
public final class TermsTest {
    private static void due(String what, int got, int want) {
        Sentences.due(what, got, want);
    }

    private static void mostGoods() {
        Sentences.sentence("Terms", "There is a list of at most 7 GOODS, numbered 0, 1, 2, .. in their order");
        KnapsackFamily x = new KnapsackFamily();
        for (int i = 0; i < 7; i++) {
            due("add of good " + i, x.add(10 + i, 30 + i, 4), i);
            due("goods after good " + i, x.goods(), i + 1);
        }
        due("add of an eighth", x.add(1, 1, 4), -4);
        due("sow of an eighth", x.sow(1, 1), 7);
        for (int i = 0; i < 7; i++) {
            due("weight of good " + i, x.weightOf(Sentences.only(7, i, 1)), 10 + i);
            due("value of good " + i, x.valueOf(Sentences.only(7, i, 1)), 30 + i);
        }
    }

    private static void everyGood() {
        Sentences.sentence("Terms", "a good has a WEIGHT 1 .. 20, a VALUE 0 .. 50, a SUPPLY 1 or 2, and a FAMILY 0 .. 3");
        for (int weight = 1; weight <= 20; weight++) {
            for (int value = 0; value <= 50; value++) {
                for (int sort = 4; sort <= 11; sort++) {
                    KnapsackFamily x = new KnapsackFamily();
                    String good = "good " + weight + ", " + value + ", " + sort + ": ";
                    int supply = sort < 8 ? 1 : 2;
                    due(good + "add", x.add(weight, value, sort), 0);
                    due(good + "weight", x.weightOf(1), weight);
                    due(good + "value", x.valueOf(1), value);
                    due(good + "weight of two", x.weightOf(2), supply == 2 ? 2 * weight : -1);
                    due(good + "value of two", x.valueOf(2), supply == 2 ? 2 * value : -1);
                }
            }
        }
    }

    private static void everyPairOfFamilies() {
        Sentences.sentence("Terms", "and a FAMILY 0 .. 3");
        for (int one = 0; one < 4; one++) {
            for (int other = 0; other < 4; other++) {
                KnapsackFamily x = Sentences.with(new int[] {1, 50, 1, one}, new int[] {1, 50, 1, other});
                due("families " + one + " and " + other, x.bestStrict(), one == other ? 50 : 100);
            }
        }
    }

    private static void piecesUpToTheSupply() {
        Sentences.sentence("Terms", "A CHOICE takes from each good a number of pieces from 0 to its supply.");
        for (int supplies = 0; supplies < 128; supplies++) {
            KnapsackFamily x = new KnapsackFamily();
            for (int i = 0; i < 7; i++) {
                x.add(20, 50, Sentences.sort(1 + (supplies >> i & 1), 0));
            }
            due("no pieces", x.weightOf(0), 0);
            due("a piece of each", x.weightOf(Sentences.code("1111111")), 140);
            for (int i = 0; i < 7; i++) {
                boolean twice = (supplies >> i & 1) == 1;
                due("one piece of good " + i, x.weightOf(Sentences.only(7, i, 1)), 20);
                due("two pieces of good " + i, x.weightOf(Sentences.only(7, i, 2)), twice ? 40 : -1);
                due("two pieces' value of good " + i, x.valueOf(Sentences.only(7, i, 2)), twice ? 100 : -1);
            }
        }
    }

    private static void sumsOverAllPieces() {
        Sentences.sentence("Terms", "Its weight and its value are the sums over all pieces.");
        due("the heaviest of all", Sentences.alike(7, 20, 50, 2).weightOf(2186), 280);
        due("the dearest of all", Sentences.alike(7, 20, 50, 2).valueOf(2186), 700);
        due("the lightest of all goods", Sentences.alike(7, 1, 0, 2).weightOf(2186), 14);
        due("the cheapest of all goods", Sentences.alike(7, 1, 0, 2).valueOf(2186), 0);
        KnapsackFamily x = Sentences.with(new int[] {3, 11, 2, 0}, new int[] {5, 0, 1, 0}, new int[] {7, 50, 2, 0});
        due("3 + 3 + 5 + 7 + 7", x.weightOf(Sentences.code("212")), 25);
        due("11 + 11 + 0 + 50 + 50", x.valueOf(Sentences.code("212")), 122);
        due("3 + 7 + 7", x.weightOf(Sentences.code("102")), 17);
        due("11 + 50 + 50", x.valueOf(Sentences.code("102")), 111);
    }

    private static void digitsOfACode() {
        Sentences.sentence("Terms", "Its CODE is the number whose digits in base 3 are the numbers of pieces of the goods 0, 1, .., "
            + "good 0 the first digit");
        int[] weights = {1, 2, 4, 8, 16, 19, 20};
        int[] supplies = {2, 1, 2, 2, 1, 2, 1};
        for (int code = 0; code < 2187; code++) {
            KnapsackFamily x = new KnapsackFamily();
            for (int i = 0; i < 7; i++) {
                x.add(weights[i], 50 - weights[i], Sentences.sort(supplies[i], 3));
            }
            String digits = Integer.toString(code + 2187, 3).substring(1);
            int weight = 0;
            int value = 0;
            boolean choice = true;
            for (int i = 0; i < 7; i++) {
                int pieces = digits.charAt(i) - '0';
                choice = choice && pieces <= supplies[i];
                weight += pieces * weights[i];
                value += pieces * (50 - weights[i]);
            }
            due("weight of the digits " + digits, x.weightOf(code), choice ? weight : -1);
            due("value of the digits " + digits, x.valueOf(code), choice ? value : -1);
        }
    }

    private static void asManyDigitsAsGoods() {
        Sentences.sentence("Terms", "(as many digits as goods)");
        for (int goods = 0; goods <= 7; goods++) {
            KnapsackFamily x = Sentences.alike(goods, 20, 50, 2);
            int tooLong = Sentences.tooLong(goods);
            due(goods + " goods, no pieces", x.weightOf(0), 0);
            due(goods + " goods, the last code", x.weightOf(tooLong - 1), 40 * goods);
            due(goods + " goods, a digit more", x.weightOf(tooLong), -1);
            due(goods + " goods, a digit more and a piece", x.weightOf(tooLong + 1), -1);
            due(goods + " goods, a digit more that is 2", x.weightOf(2 * tooLong), -1);
            due(goods + " goods, two digits more", x.weightOf(3 * tooLong), -1);
            due(goods + " goods, value, the last code", x.valueOf(tooLong - 1), 100 * goods);
            due(goods + " goods, value, a digit more", x.valueOf(tooLong), -1);
        }
    }

    private static void strictInEveryFamily() {
        Sentences.sentence("Terms", "A choice is STRICT if of every family it takes pieces of at most one good.");
        for (int family = 0; family < 4; family++) {
            int[] one = {1, 9, 2, family};
            int[] other = {1, 8, 2, family};
            int[] apart = {1, 7, 2, (family + 1) % 4};
            due("no good of family " + family, new KnapsackFamily().bestStrict(), 0);
            due("two pieces of one good of family " + family, Sentences.with(one).bestStrict(), 18);
            due("two goods of family " + family, Sentences.with(one, other).bestStrict(), 18);
            due("their code", Sentences.with(one, other).bestStrictCode(), Sentences.code("20"));
            due("the same, turned round", Sentences.with(other, one).bestStrictCode(), Sentences.code("02"));
            due("one of another family with it", Sentences.with(one, apart, other).bestStrict(), 32);
            due("their code, too", Sentences.with(one, apart, other).bestStrictCode(), Sentences.code("220"));
        }
    }

    private static void strictAmongSeven() {
        Sentences.sentence("Terms", "A choice is STRICT if of every family it takes pieces of at most one good.");
        for (int i = 0; i < 7; i++) {
            for (int j = i + 1; j < 7; j++) {
                KnapsackFamily x = new KnapsackFamily();
                // Only the goods i and j are worth anything, and they are of one family.
                for (int at = 0; at < 7; at++) {
                    x.add(1, at == i ? 5 : at == j ? 3 : 0, Sentences.sort(1, at == i || at == j ? 2 : at % 2));
                }
                due("goods " + i + " and " + j + " of one family", x.bestStrict(), 5);
                due("their code", x.bestStrictCode(), Sentences.only(7, i, 1));
                due("without the rule", x.best(), 8);
            }
        }
    }

    private static void firstLimit() {
        Sentences.sentence("Terms", "There is a LIMIT 0 .. 60, 20 at first");
        due("the limit before the first one set", new KnapsackFamily().limit(0), 20);
        due("a weight of 20", Sentences.with(new int[] {20, 1, 1, 0}).best(), 1);
        KnapsackFamily x = Sentences.with(new int[] {20, 5, 1, 0}, new int[] {1, 1, 1, 0});
        due("a weight of 21", x.best(), 5);
    }

    private static void atMostTheLimit() {
        Sentences.sentence("Terms", "a choice FITS if its weight is at most the limit.");
        for (int limit = 0; limit <= 60; limit++) {
            // 1 + 1 + 3 + 3 + 9 + 9 + 20 + 20 in all: each weight up to 60 can be made.
            KnapsackFamily x = Sentences.with(new int[] {1, 1, 2, 0}, new int[] {3, 3, 2, 1}, new int[] {9, 9, 2, 2},
                new int[] {20, 20, 2, 3});
            due("fullest under " + limit, Sentences.limited(x, limit).fullest(), limit);
            due("best under " + limit, x.best(), limit);
            due("bestStrict under " + limit, x.bestStrict(), limit);
        }
        for (int weight = 1; weight <= 20; weight++) {
            KnapsackFamily x = Sentences.with(new int[] {weight, 7, 1, 0});
            due("weight " + weight + " just fits", Sentences.limited(x, weight).fitting(), 2);
            due("weight " + weight + " is one too much", Sentences.limited(x, weight - 1).fitting(), 1);
        }
    }

    private static void greaterValue() {
        Sentences.sentence("Terms", "Of two choices the BETTER one is that of greater value");
        // The dearer one is heavier and has the greater code.
        KnapsackFamily x = Sentences.with(new int[] {20, 50, 1, 0}, new int[] {1, 49, 1, 0});
        due("bestCode", x.bestCode(), Sentences.code("10"));
        due("bestStrictCode", x.bestStrictCode(), Sentences.code("10"));
        due("best", x.best(), 50);
        due("bestStrict", x.bestStrict(), 50);
    }

    private static void lesserWeight() {
        Sentences.sentence("Terms", "with the same value, that of lesser weight");
        // The lighter one has the greater code.
        KnapsackFamily x = Sentences.with(new int[] {19, 50, 1, 0}, new int[] {20, 50, 1, 0});
        due("bestCode", x.bestCode(), Sentences.code("10"));
        due("bestStrictCode", x.bestStrictCode(), Sentences.code("10"));
        KnapsackFamily worthless = Sentences.limited(Sentences.alike(7, 1, 0, 2), 60);
        due("nothing is lighter than pieces without value", worthless.bestCode(), 0);
        due("nothing is lighter, strict", worthless.bestStrictCode(), 0);
        KnapsackFamily beside = Sentences.with(new int[] {1, 0, 2, 0}, new int[] {1, 1, 1, 1}, new int[] {1, 0, 2, 2});
        due("no piece without value beside one of value", beside.bestCode(), Sentences.code("010"));
        due("no piece without value, strict", beside.bestStrictCode(), Sentences.code("010"));
    }

    private static void lesserCode() {
        Sentences.sentence("Terms", "with the same weight, that with the lesser code.");
        for (int goods = 2; goods <= 7; goods++) {
            KnapsackFamily x = Sentences.limited(Sentences.alike(goods, 5, 9, 2), 5);
            due("one of " + goods + " alike", x.bestCode(), 1);
            due("one of " + goods + " alike, strict", x.bestStrictCode(), 1);
            Sentences.limited(x, 10);
            due("two of " + goods + " alike", x.bestCode(), 2);
            due("two of " + goods + " alike, strict", x.bestStrictCode(), 2);
            Sentences.limited(x, 15);
            due("three of " + goods + " alike", x.bestCode(), Sentences.code("12"));
            due("three of " + goods + " alike, strict", x.bestStrictCode(), Sentences.code("12"));
        }
        int[] great = {2, 2, 1, 0};
        int[] small = {1, 1, 2, 0};
        KnapsackFamily x = Sentences.limited(Sentences.with(great, small), 2);
        due("two small ones behind a great one", x.bestCode(), Sentences.code("02"));
        due("two small ones behind a great one, strict", x.bestStrictCode(), Sentences.code("02"));
        KnapsackFamily y = Sentences.limited(Sentences.with(small, great), 2);
        due("a great one behind two small ones", y.bestCode(), Sentences.code("01"));
        due("a great one behind two small ones, strict", y.bestStrictCode(), Sentences.code("01"));
    }

    private static void lesserCodeOfTheStrict() {
        Sentences.sentence("Terms", "with the same weight, that with the lesser code.");
        KnapsackFamily x = Sentences.with(new int[] {1, 1, 1, 0}, new int[] {1, 1, 1, 1}, new int[] {1, 1, 1, 1});
        Sentences.limited(x, 2);
        due("the least code is not strict", x.bestCode(), Sentences.code("011"));
        due("the least code that is strict", x.bestStrictCode(), Sentences.code("101"));
    }

    private static void nothingAlwaysFits() {
        Sentences.sentence("Terms", "(The choice of nothing always fits.)");
        for (int goods = 0; goods <= 7; goods++) {
            KnapsackFamily x = Sentences.limited(Sentences.alike(goods, 1, 50, 2), 0);
            due("fitting", x.fitting(), 1);
            due("fullest", x.fullest(), 0);
            due("best", x.best(), 0);
            due("bestCode", x.bestCode(), 0);
            due("bestStrict", x.bestStrict(), 0);
            due("bestStrictCode", x.bestStrictCode(), 0);
            due("two", x.two(0), 0);
            due("without", x.without(0), goods == 0 ? -1 : 0);
        }
    }

    private static void goodNumbers() {
        Sentences.sentence("Terms", "a good's number is good if there is such a good.");
        for (int goods = 0; goods <= 7; goods++) {
            for (int i = -2; i <= 9; i++) {
                boolean good = 0 <= i && i < goods;
                String which = i + " of " + goods;
                due("drop " + which, Sentences.alike(goods, 1, 1, 1).drop(i), good ? goods - 1 : -1);
                due("without " + which, Sentences.alike(goods, 1, 1, 1).without(i), good ? goods - 1 : -1);
            }
        }
        KnapsackFamily x = Sentences.alike(7, 1, 1, 1);
        x.drop(0);
        due("without the number that is gone", x.without(6), -1);
        due("drop of the number that is gone", x.drop(6), -1);
        x.add(1, 1, 4);
        due("without the number that is back", x.without(6), 6);
        due("drop of the number that is back", x.drop(6), 6);
    }

    public static void main(String[] args) {
        mostGoods();
        everyGood();
        everyPairOfFamilies();
        piecesUpToTheSupply();
        sumsOverAllPieces();
        digitsOfACode();
        asManyDigitsAsGoods();
        strictInEveryFamily();
        strictAmongSeven();
        firstLimit();
        atMostTheLimit();
        greaterValue();
        lesserWeight();
        lesserCode();
        lesserCodeOfTheStrict();
        nothingAlwaysFits();
        goodNumbers();
        Sentences.end();
    }
}
