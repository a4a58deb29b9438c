import java.util.function.IntUnaryOperator;

/** What the tests of boundary cases share: the sentence that is looked at, the answers due under it, and ready goods. */
final class Sentences {
    static final int LEAST = Integer.MIN_VALUE;
    static final int MOST = Integer.MAX_VALUE;
    private static final int MOST_PRINTED = 40;
    private static String sentence = "";
    private static int sentences = 0;
    private static int wrong = 0;

    private Sentences() {
    }

    /** Begins the test of one sentence: the heading it stands under, and the document's own words. */
    static void sentence(String heading, String words) {
        sentence = heading + ", \"" + words + "\"";
        sentences++;
    }

    static void due(String what, int got, int want) {
        if (got != want) {
            broken(what + " answered " + got + ", due is " + want);
        }
    }

    static void broken(String how) {
        wrong++;
        if (wrong <= MOST_PRINTED) {
            System.out.println(sentence + ": " + how);
        }
    }

    static void end() {
        System.out.println(sentences + " tests of sentences, " + wrong + " answers not as due");
        if (wrong != 0) {
            System.exit(1);
        }
    }

    /**
     * That an argument is refused on both sides of least .. most, near and far. The far ones are also those that would be
     * inside if their upper bits were lost. The call makes an object of its own each time.
     */
    static void refusedOutside(String what, IntUnaryOperator call, int least, int most, int refusal) {
        int[] outside = {least - 1, most + 1, least - 2, most + 2, LEAST, LEAST + 1, MOST, MOST - 1, least + 1024,
            most - 1024, least + (1 << 16), most - (1 << 16), least + (1 << 30), most - (1 << 30), LEAST + least, LEAST + most};
        for (int argument : outside) {
            due(what + " " + argument, call.applyAsInt(argument), refusal);
        }
    }

    static int sort(int supply, int family) {
        return 4 * supply + family;
    }

    /** An object with these goods, each told as weight, value, supply, family. */
    static KnapsackFamily with(int[]... goods) {
        KnapsackFamily x = new KnapsackFamily();
        for (int[] good : goods) {
            x.add(good[0], good[1], sort(good[2], good[3]));
        }
        return x;
    }

    static KnapsackFamily alike(int count, int weight, int value, int supply) {
        KnapsackFamily x = new KnapsackFamily();
        for (int i = 0; i < count; i++) {
            x.add(weight, value, sort(supply, i % 4));
        }
        return x;
    }

    static KnapsackFamily limited(KnapsackFamily x, int limit) {
        x.limit(limit);
        return x;
    }

    /** A code from its digits, that of good 0 first. */
    static int code(String digits) {
        return Integer.parseInt("0" + digits, 3);
    }

    /** The code of so many pieces of good i and nothing else. */
    static int only(int goods, int i, int pieces) {
        return code("0".repeat(i) + pieces + "0".repeat(goods - 1 - i));
    }

    /** The first number with more digits than there are goods. */
    static int tooLong(int goods) {
        return code("1" + "0".repeat(goods));
    }

    /** Leaves the goods i and j, i before j, alone in the list. */
    static void keepTwo(KnapsackFamily x, int i, int j) {
        for (int at = x.goods() - 1; at >= 0; at--) {
            if (at != i && at != j) {
                x.drop(at);
            }
        }
    }
}
