import java.util.ArrayList;
import java.util.List;

/**
 * Long mixed runs of calls, each answer compared with a slow model that follows the document's terms word by word
 * and shares no way of working with the class: choices are lists of digits, codes are read from text.
 */
public final class ModelTest {
    private static final int RUNS = 120;
    private static final int CALLS = 512;
    private static int wrong = 0;

    /** A fixed row of numbers, so that every run of this test makes the same calls. */
    private static final class Numbers {
        private long state;

        Numbers(long seed) {
            state = seed * 7919 + 17;
        }

        int below(int end) {
            state = state * 6364136223846793005L + 1442695040888963407L;
            return (int) ((state >>> 33) % end);
        }

        /** Mostly inside least .. most, sometimes just outside, seldom far away. */
        int around(int least, int most) {
            int kind = below(40);
            if (kind == 0) {
                return least - 1 - below(3);
            }
            if (kind == 1) {
                return most + 1 + below(3);
            }
            if (kind == 2) {
                return new int[] {Integer.MIN_VALUE, Integer.MAX_VALUE, -1000, 100000}[below(4)];
            }
            return least + below(most - least + 1);
        }
    }

    private record Good(int weight, int value, int supply, int family) {}

    private static final class Choice {
        final int[] pieces;
        int weight;
        int value;
        int code;
        boolean strict = true;

        Choice(int[] pieces, List<Good> goods) {
            this.pieces = pieces;
            StringBuilder digits = new StringBuilder("0");
            int[] takenOf = new int[4];
            for (int i = 0; i < pieces.length; i++) {
                Good good = goods.get(i);
                digits.append(pieces[i]);
                weight += pieces[i] * good.weight();
                value += pieces[i] * good.value();
                if (pieces[i] > 0 && ++takenOf[good.family()] > 1) {
                    strict = false;
                }
            }
            code = Integer.parseInt(digits.toString(), 3);
        }

        boolean betterThan(Choice other) {
            if (value != other.value) {
                return value > other.value;
            }
            if (weight != other.weight) {
                return weight < other.weight;
            }
            return code < other.code;
        }
    }

    private static final class Model {
        final List<Good> goods = new ArrayList<>();
        int limit = 20;

        List<Choice> choices() {
            List<Choice> all = new ArrayList<>();
            // From the last code to the first, so that ties are really settled by betterThan.
            gather(new int[goods.size()], 0, all);
            return all;
        }

        private void gather(int[] pieces, int i, List<Choice> into) {
            if (i == goods.size()) {
                into.add(new Choice(pieces.clone(), goods));
                return;
            }
            for (int n = goods.get(i).supply(); n >= 0; n--) {
                pieces[i] = n;
                gather(pieces, i + 1, into);
            }
        }

        int add(int weight, int value, int sort) {
            if (weight < 1 || weight > 20) {
                return -1;
            }
            if (value < 0 || value > 50) {
                return -2;
            }
            for (int supply = 1; supply <= 2; supply++) {
                for (int family = 0; family <= 3; family++) {
                    if (sort == 4 * supply + family) {
                        if (goods.size() == 7) {
                            return -4;
                        }
                        goods.add(new Good(weight, value, supply, family));
                        return goods.size() - 1;
                    }
                }
            }
            return -3;
        }

        int sow(int seed, int count) {
            if (seed < 0 || seed > 100) {
                return -1;
            }
            if (count < 1 || count > 7) {
                return -2;
            }
            int k = 0;
            while (k < count && goods.size() < 7) {
                goods.add(new Good(1 + Math.floorMod(seed + 5 * k, 20), Math.floorMod(seed * 3 + 7 * k * k, 51),
                    1 + Math.floorMod(seed + k, 2), Math.floorMod(seed + k * k, 4)));
                k++;
            }
            return goods.size();
        }

        int drop(int i) {
            if (i < 0 || i >= goods.size()) {
                return -1;
            }
            goods.remove(i);
            return goods.size();
        }

        int limit(int to) {
            if (to < 0 || to > 60) {
                return -1;
            }
            int before = limit;
            limit = to;
            return before;
        }

        Choice best(boolean strict, int without) {
            Choice best = null;
            for (Choice c : choices()) {
                boolean asked = (!strict || c.strict) && (without < 0 || c.pieces[without] == 0);
                if (asked && c.weight <= limit && (best == null || c.betterThan(best))) {
                    best = c;
                }
            }
            return best;
        }

        Choice coded(int code) {
            for (Choice c : choices()) {
                if (c.code == code) {
                    return c;
                }
            }
            return null;
        }

        int weightOf(int code) {
            Choice c = coded(code);
            return c == null ? -1 : c.weight;
        }

        int valueOf(int code) {
            Choice c = coded(code);
            return c == null ? -1 : c.value;
        }

        int fitting() {
            return (int) choices().stream().filter(c -> c.weight <= limit).count();
        }

        int weighing(int weight) {
            return weight < 0 || weight > 300 ? -1 : (int) choices().stream().filter(c -> c.weight == weight).count();
        }

        int fullest() {
            return choices().stream().mapToInt(c -> c.weight).filter(w -> w <= limit).max().getAsInt();
        }

        int lightest(int value) {
            return choices().stream().filter(c -> c.value >= value).mapToInt(c -> c.weight).min().orElse(-1);
        }

        int two(int other) {
            return other < 0 || other > 60 ? -1 : share(0, limit, other);
        }

        private int share(int i, int roomOfFirst, int roomOfSecond) {
            if (roomOfFirst < 0 || roomOfSecond < 0) {
                return Integer.MIN_VALUE / 2;
            }
            if (i == goods.size()) {
                return 0;
            }
            Good good = goods.get(i);
            int most = Integer.MIN_VALUE / 2;
            for (int a = 0; a <= good.supply(); a++) {
                for (int b = 0; a + b <= good.supply(); b++) {
                    int later = share(i + 1, roomOfFirst - a * good.weight(), roomOfSecond - b * good.weight());
                    most = Math.max(most, later + (a + b) * good.value());
                }
            }
            return most;
        }

        int without(int i) {
            return i < 0 || i >= goods.size() ? -1 : best(false, i).value;
        }

        int halves() {
            return canBalance(0, 0) ? 1 : 0;
        }

        private boolean canBalance(int i, int lead) {
            if (i == goods.size()) {
                return lead == 0;
            }
            Good good = goods.get(i);
            for (int a = 0; a <= good.supply(); a++) {
                if (canBalance(i + 1, lead + (2 * a - good.supply()) * good.weight())) {
                    return true;
                }
            }
            return false;
        }
    }

    private static void due(int run, int call, String what, int got, int want) {
        if (got != want) {
            wrong++;
            if (wrong <= 20) {
                System.out.println("run " + run + ", call " + call + ": " + what + " answered " + got + ", due is " + want);
            }
        }
    }

    private static void change(int run, int call, Numbers numbers, KnapsackFamily x, Model m) {
        switch (numbers.below(8)) {
            case 0, 1, 2 -> {
                // Narrow ranges in some runs, so that ties of value and of weight come often.
                boolean narrow = run % 3 == 0;
                int weight = numbers.around(1, narrow ? 4 : 20);
                int value = numbers.around(0, narrow ? 3 : 50);
                int sort = numbers.around(4, 11);
                String what = "add(" + weight + ", " + value + ", " + sort + ")";
                due(run, call, what, x.add(weight, value, sort), m.add(weight, value, sort));
            }
            case 3 -> {
                int seed = numbers.around(0, 100);
                int count = numbers.around(1, 7);
                due(run, call, "sow(" + seed + ", " + count + ")", x.sow(seed, count), m.sow(seed, count));
            }
            case 4, 5 -> {
                int i = numbers.around(0, Math.max(0, m.goods.size() - 1));
                due(run, call, "drop(" + i + ")", x.drop(i), m.drop(i));
            }
            default -> {
                int limit = numbers.around(0, 60);
                due(run, call, "limit(" + limit + ")", x.limit(limit), m.limit(limit));
            }
        }
    }

    private static void ask(int run, int call, Numbers numbers, KnapsackFamily x, Model m) {
        int greatestCode = (int) Math.pow(3, m.goods.size()) - 1;
        int code = numbers.around(0, greatestCode);
        int weight = numbers.around(0, numbers.below(2) == 0 ? 300 : 60);
        int value = numbers.around(0, numbers.below(2) == 0 ? 700 : 100);
        int other = numbers.around(0, 60);
        int i = numbers.around(0, Math.max(0, m.goods.size() - 1));
        switch (numbers.below(14)) {
            case 0 -> due(run, call, "goods()", x.goods(), m.goods.size());
            case 1 -> due(run, call, "weightOf(" + code + ")", x.weightOf(code), m.weightOf(code));
            case 2 -> due(run, call, "valueOf(" + code + ")", x.valueOf(code), m.valueOf(code));
            case 3 -> due(run, call, "best()", x.best(), m.best(false, -1).value);
            case 4 -> due(run, call, "bestCode()", x.bestCode(), m.best(false, -1).code);
            case 5 -> due(run, call, "bestStrict()", x.bestStrict(), m.best(true, -1).value);
            case 6 -> due(run, call, "bestStrictCode()", x.bestStrictCode(), m.best(true, -1).code);
            case 7 -> due(run, call, "fitting()", x.fitting(), m.fitting());
            case 8 -> due(run, call, "weighing(" + weight + ")", x.weighing(weight), m.weighing(weight));
            case 9 -> due(run, call, "fullest()", x.fullest(), m.fullest());
            case 10 -> due(run, call, "lightest(" + value + ")", x.lightest(value), m.lightest(value));
            case 11 -> due(run, call, "two(" + other + ")", x.two(other), m.two(other));
            case 12 -> due(run, call, "without(" + i + ")", x.without(i), m.without(i));
            default -> due(run, call, "halves()", x.halves(), m.halves());
        }
    }

    public static void main(String[] args) {
        for (int run = 0; run < RUNS; run++) {
            Numbers numbers = new Numbers(run);
            KnapsackFamily x = new KnapsackFamily();
            Model m = new Model();
            for (int call = 1; call <= CALLS; call++) {
                if (numbers.below(4) == 0) {
                    change(run, call, numbers, x, m);
                } else {
                    ask(run, call, numbers, x, m);
                }
            }
        }
        System.out.println(wrong == 0 ? "all answers are as due" : wrong + " answers are not as due");
        if (wrong != 0) {
            System.exit(1);
        }
    }
}
