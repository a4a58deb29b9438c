/** Choosing from a few kinds of goods under a limit of weight. */
public final class KnapsackFamily {
    private static final int MOST_GOODS = 7;
    private static final int MOST_WEIGHT = 20;
    private static final int MOST_VALUE = 50;
    private static final int FAMILIES = 4;
    // A sort is FAMILIES * supply + family, with a supply of 1 or 2.
    private static final int LEAST_SORT = 4;
    private static final int MOST_SORT = 11;
    private static final int MOST_SEED = 100;
    private static final int FIRST_LIMIT = 20;
    private static final int MOST_LIMIT = 60;
    private static final int MOST_ASKED_WEIGHT = 300;
    private static final int BASE = 3;
    private static final int NO_GOOD = -1;
    private static final int LIMITS = 61;
    private static final int PAIRS_OF_LIMITS = 3721;

    private final int[] weights = new int[MOST_GOODS];
    private final int[] values = new int[MOST_GOODS];
    private final int[] supplies = new int[MOST_GOODS];
    private final int[] families = new int[MOST_GOODS];
    // Scratch for two(), filled anew by each call: it lives here because a method may make no array.
    private final int[] bestPair = new int[PAIRS_OF_LIMITS];
    private int goodCount;
    private int weightLimit;

    public KnapsackFamily() {
        goodCount = 0;
        weightLimit = FIRST_LIMIT;
    }

    public int add(int weight, int value, int sort) {
        if (weight < 1 || weight > MOST_WEIGHT) {
            return -1;
        }
        if (value < 0 || value > MOST_VALUE) {
            return -2;
        }
        if (sort < LEAST_SORT || sort > MOST_SORT) {
            return -3;
        }
        if (goodCount >= MOST_GOODS) {
            return -4;
        }
        putIn(weight, value, sort / FAMILIES, sort % FAMILIES);
        return goodCount - 1;
    }

    public int sow(int seed, int count) {
        if (seed < 0 || seed > MOST_SEED) {
            return -1;
        }
        if (count < 1 || count > MOST_GOODS) {
            return -2;
        }
        for (int k = 0; k < count; k++) {
            int weight = 1 + (seed + 5 * k) % 20;
            int value = (seed * 3 + 7 * k * k) % 51;
            int supply = 1 + (seed + k) % 2;
            int family = (seed + k * k) % 4;
            putIn(weight, value, supply, family);
        }
        return goodCount;
    }

    public int drop(int i) {
        if (!isGood(i)) {
            return -1;
        }
        for (int to = i; to + 1 < goodCount; to++) {
            weights[to] = weights[to + 1];
            values[to] = values[to + 1];
            supplies[to] = supplies[to + 1];
            families[to] = families[to + 1];
        }
        goodCount--;
        return goodCount;
    }

    public int limit(int limit) {
        if (limit < 0 || limit > MOST_LIMIT) {
            return -1;
        }
        int before = weightLimit;
        weightLimit = limit;
        return before;
    }

    public int goods() {
        return goodCount;
    }

    public int weightOf(int code) {
        return isChoice(code) ? sumOver(code, weights) : -1;
    }

    public int valueOf(int code) {
        return isChoice(code) ? sumOver(code, values) : -1;
    }

    public int best() {
        int code = findBest(false, NO_GOOD);
        return sumOver(code, values);
    }

    public int bestCode() {
        return findBest(false, NO_GOOD);
    }

    public int bestStrict() {
        int code = findBest(true, NO_GOOD);
        return sumOver(code, values);
    }

    public int bestStrictCode() {
        return findBest(true, NO_GOOD);
    }

    public int fitting() {
        int found = 0;
        int end = endOfCodes();
        for (int code = 0; code < end; code++) {
            if (isChoice(code) && sumOver(code, weights) <= weightLimit) {
                found++;
            }
        }
        return found;
    }

    public int weighing(int weight) {
        if (weight < 0 || weight > MOST_ASKED_WEIGHT) {
            return -1;
        }
        return countWeighing(weight);
    }

    public int fullest() {
        int most = 0;
        int end = endOfCodes();
        for (int code = 0; code < end; code++) {
            if (isChoice(code)) {
                int weight = sumOver(code, weights);
                if (weight <= weightLimit && weight > most) {
                    most = weight;
                }
            }
        }
        return most;
    }

    public int lightest(int value) {
        int least = -1;
        int end = endOfCodes();
        for (int code = 0; code < end; code++) {
            if (isChoice(code) && sumOver(code, values) >= value) {
                int weight = sumOver(code, weights);
                if (least < 0 || weight < least) {
                    least = weight;
                }
            }
        }
        return least;
    }

    public int two(int other) {
        if (other < 0 || other > MOST_LIMIT) {
            return -1;
        }
        emptyBothSacks();
        for (int i = 0; i < goodCount; i++) {
            for (int piece = 0; piece < supplies[i]; piece++) {
                offerToBothSacks(weights[i], values[i]);
            }
        }
        return bestPair[weightLimit * LIMITS + other];
    }

    public int without(int i) {
        if (!isGood(i)) {
            return -1;
        }
        int code = findBest(false, i);
        return sumOver(code, values);
    }

    public int halves() {
        int whole = 0;
        for (int i = 0; i < goodCount; i++) {
            whole += weights[i] * supplies[i];
        }
        if (whole % 2 != 0) {
            return 0;
        }
        // What a choice leaves over is a choice too, so one of half the weight is enough.
        return countWeighing(whole / 2) > 0 ? 1 : 0;
    }

    private boolean isGood(int i) {
        return i >= 0 && i < goodCount;
    }

    private void putIn(int weight, int value, int supply, int family) {
        if (goodCount >= MOST_GOODS) {
            return;
        }
        weights[goodCount] = weight;
        values[goodCount] = value;
        supplies[goodCount] = supply;
        families[goodCount] = family;
        goodCount++;
    }

    /** The first number that is too great to be a code. */
    private int endOfCodes() {
        int end = 1;
        for (int i = 0; i < goodCount; i++) {
            end *= BASE;
        }
        return end;
    }

    private boolean isChoice(int code) {
        if (code < 0) {
            return false;
        }
        // Good 0 has the leading digit, so the digits come off from the last good on.
        int rest = code;
        for (int i = goodCount - 1; i >= 0; i--) {
            if (rest % BASE > supplies[i]) {
                return false;
            }
            rest /= BASE;
        }
        return rest == 0;
    }

    private int sumOver(int code, int[] perPiece) {
        int sum = 0;
        int rest = code;
        for (int i = goodCount - 1; i >= 0; i--) {
            sum += rest % BASE * perPiece[i];
            rest /= BASE;
        }
        return sum;
    }

    private boolean isStrict(int code) {
        int familiesTaken = 0;
        int rest = code;
        for (int i = goodCount - 1; i >= 0; i--) {
            if (rest % BASE > 0) {
                int family = 1 << families[i];
                if ((familiesTaken & family) != 0) {
                    return false;
                }
                familiesTaken |= family;
            }
            rest /= BASE;
        }
        return true;
    }

    private boolean takes(int code, int good) {
        int rest = code;
        for (int i = goodCount - 1; i > good; i--) {
            rest /= BASE;
        }
        return rest % BASE > 0;
    }

    private boolean isAllowed(int code, boolean strictOnly, int barred) {
        if (!isChoice(code)) {
            return false;
        }
        if (strictOnly && !isStrict(code)) {
            return false;
        }
        return barred == NO_GOOD || !takes(code, barred);
    }

    /** The code of the best choice that fits, takes nothing of the barred good and, if asked, is strict. */
    private int findBest(boolean strictOnly, int barred) {
        // The choice of nothing is always allowed, so the search begins with it.
        int found = 0;
        int foundValue = 0;
        int foundWeight = 0;
        int end = endOfCodes();
        for (int code = 1; code < end; code++) {
            if (isAllowed(code, strictOnly, barred)) {
                int value = sumOver(code, values);
                int weight = sumOver(code, weights);
                // Codes rise, so of two that are alike the one found first stays.
                boolean better = value > foundValue || value == foundValue && weight < foundWeight;
                if (weight <= weightLimit && better) {
                    found = code;
                    foundValue = value;
                    foundWeight = weight;
                }
            }
        }
        return found;
    }

    private int countWeighing(int weight) {
        int found = 0;
        int end = endOfCodes();
        for (int code = 0; code < end; code++) {
            if (isChoice(code) && sumOver(code, weights) == weight) {
                found++;
            }
        }
        return found;
    }

    private void emptyBothSacks() {
        for (int place = 0; place < PAIRS_OF_LIMITS; place++) {
            bestPair[place] = 0;
        }
    }

    /** Lets one more piece go into the first sack, into the second or into neither, under every pair of limits. */
    private void offerToBothSacks(int weight, int value) {
        // From the great limits down: the places looked at must not yet know of this piece.
        for (int first = MOST_LIMIT; first >= 0; first--) {
            for (int second = MOST_LIMIT; second >= 0; second--) {
                int place = first * LIMITS + second;
                int most = bestPair[place];
                if (first >= weight) {
                    int inFirst = bestPair[place - weight * LIMITS] + value;
                    most = inFirst > most ? inFirst : most;
                }
                if (second >= weight) {
                    int inSecond = bestPair[place - weight] + value;
                    most = inSecond > most ? inSecond : most;
                }
                bestPair[place] = most;
            }
        }
    }
}
