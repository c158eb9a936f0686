import java.util.ArrayList;
import java.util.List;
import java.util.Random;
import java.util.TreeSet;

/**
 * Runs of at most 512 calls beside a second program that follows the document's terms word by word:
 * the support is found as the meet of all sets that are closed under the rules, not by passes.
 */
public final class OracleTest {
    private static int wrong = 0;
    private static String history = "";

    private static final class Slow {
        final int[][] rules = new int[10][];

        int add(int kind, int head, int pos, int neg) {
            boolean headFits = kind == 2 || 0 <= head && head <= 5;
            if (kind < 0 || kind > 2 || !headFits || (pos | neg) < 0 || pos > 63 || neg > 63) {
                return -1;
            }
            for (int r = 0; r < 10; r++) {
                if (rules[r] == null) {
                    rules[r] = new int[] {kind, head, pos, neg};
                    return r;
                }
            }
            return -2;
        }

        boolean has(int r) {
            return r >= 0 && r < 10 && rules[r] != null;
        }

        int mask() {
            int sum = 0;
            for (int r = 0; r < 10; r++) {
                sum += has(r) ? (int) Math.pow(2, r) : 0;
            }
            return sum;
        }

        int support(int m) {
            List<int[]> taken = new ArrayList<>();
            for (int[] rule : rules) {
                if (rule == null || rule[0] == 2 || (rule[3] & m) != 0) {
                    continue;
                }
                if (rule[0] == 0 || (m & 1 << rule[1]) != 0) {
                    taken.add(rule);
                }
            }
            int meet = 63;
            for (int s = 0; s < 64; s++) {
                int set = s;
                if (taken.stream().allMatch(t -> (t[2] & set) != t[2] || (set & 1 << t[1]) != 0)) {
                    meet &= s;
                }
            }
            return meet;
        }

        TreeSet<Integer> stable() {
            TreeSet<Integer> found = new TreeSet<>();
            for (int m = 0; m < 64; m++) {
                boolean banned = false;
                for (int[] rule : rules) {
                    banned |= rule != null && rule[0] == 2 && (rule[2] & m) == rule[2] && (rule[3] & m) == 0;
                }
                if (!banned && support(m) == m) {
                    found.add(m);
                }
            }
            return found;
        }

        boolean matters(int r) {
            if (!has(r)) {
                return false;
            }
            TreeSet<Integer> with = stable();
            int[] kept = rules[r];
            rules[r] = null;
            TreeSet<Integer> without = stable();
            rules[r] = kept;
            return !with.equals(without);
        }
    }

    private static void due(String call, Object got, Object want) {
        if (!got.equals(want)) {
            wrong++;
            System.out.println("after" + history + ": " + call + " answered " + got + ", due is " + want);
        }
    }

    private static int setOf(Random random, int most) {
        int set = 0;
        for (int i = random.nextInt(most + 1); i > 0; i--) {
            set |= 1 << random.nextInt(6);
        }
        return random.nextInt(60) == 0 ? 64 - 65 * random.nextInt(2) : set;
    }

    private static void change(Random random, int mostAtoms, StableModels x, Slow slow) {
        if (random.nextInt(4) == 0) {
            int r = random.nextInt(12) - 1;
            boolean want = slow.has(r);
            if (want) {
                slow.rules[r] = null;
            }
            history += " remove(" + r + ")";
            due("remove(" + r + ")", x.remove(r), want);
            return;
        }
        int kind = random.nextInt(40) == 0 ? 3 : new int[] {0, 0, 0, 1, 1, 2}[random.nextInt(6)];
        int head = random.nextInt(30) == 0 ? 6 : random.nextInt(6);
        int pos = setOf(random, mostAtoms);
        int neg = setOf(random, mostAtoms);
        String call = "add(" + kind + ", " + head + ", " + pos + ", " + neg + ")";
        history += " " + call;
        due(call, x.add(kind, head, pos, neg), slow.add(kind, head, pos, neg));
    }

    private static void compareSet(int m, StableModels x, Slow slow, TreeSet<Integer> stable) {
        List<Integer> ordered = new ArrayList<>(stable);
        boolean isSet = m >= 0 && m < 64;
        due("support(" + m + ")", x.support(m), isSet ? slow.support(m) : -1);
        due("stable(" + m + ")", x.stable(m), stable.contains(m));
        due("model(" + m + ")", x.model(m), m >= 0 && m < ordered.size() ? ordered.get(m) : -1);
    }

    private static void compareSets(StableModels x, Slow slow, TreeSet<Integer> stable) {
        for (int m = -1; m <= 64; m++) {
            compareSet(m, x, slow, stable);
        }
    }

    private static void compareSums(StableModels x, TreeSet<Integer> stable) {
        int union = 0;
        int common = 63;
        int fewest = -1;
        int maximal = 0;
        for (int m : stable) {
            union |= m;
            common &= m;
            fewest = fewest < 0 ? Integer.bitCount(m) : Math.min(fewest, Integer.bitCount(m));
            maximal += stable.stream().noneMatch(o -> o != m && (o & m) == m) ? 1 : 0;
        }
        due("models()", x.models(), stable.size());
        due("brave()", x.brave(), union);
        due("cautious()", x.cautious(), common);
        due("fewest()", x.fewest(), fewest);
        due("maximal()", x.maximal(), maximal);
    }

    private static void compareFind(int in, int out, StableModels x, TreeSet<Integer> stable) {
        boolean sets = in >= 0 && in < 64 && out >= 0 && out < 64;
        int want = !sets ? -1
            : stable.stream().filter(m -> (m & in) == in && (m & out) == 0).findFirst().orElse(-1);
        due("find(" + in + ", " + out + ")", x.find(in, out), want);
    }

    private static void compareFinds(Random random, StableModels x, TreeSet<Integer> stable) {
        for (int i = 0; i < 20; i++) {
            compareFind(setOf(random, 2), setOf(random, 2), x, stable);
        }
    }

    /** 261 calls at most: 24 changes and then every question. */
    private static void run(Random random) {
        StableModels x = new StableModels();
        Slow slow = new Slow();
        history = "";
        int changes = 1 + random.nextInt(24);
        for (int i = 0; i < changes; i++) {
            change(random, 2, x, slow);
        }
        due("rules()", x.rules(), slow.mask());
        TreeSet<Integer> stable = slow.stable();
        compareSets(x, slow, stable);
        compareSums(x, stable);
        compareFinds(random, x, stable);
        for (int r = -1; r <= 10; r++) {
            due("matters(" + r + ")", x.matters(r), slow.matters(r));
        }
        due("rules() at the end", x.rules(), slow.mask());
    }

    private static void question(Random random, StableModels x, Slow slow) {
        TreeSet<Integer> stable = slow.stable();
        int m = random.nextInt(66) - 1;
        int r = random.nextInt(12) - 1;
        switch (random.nextInt(6)) {
            case 0 -> compareSet(m, x, slow, stable);
            case 1 -> compareSet(random.nextInt(4), x, slow, stable);
            case 2 -> compareSums(x, stable);
            case 3 -> compareFind(setOf(random, 2), setOf(random, 2), x, stable);
            case 4 -> due("matters(" + r + ")", x.matters(r), slow.matters(r));
            default -> due("rules()", x.rules(), slow.mask());
        }
    }

    /** Changes and questions by turns, 5 calls a turn at most, so that the object is called 510 times at most. */
    private static void mixedRun(Random random) {
        StableModels x = new StableModels();
        Slow slow = new Slow();
        history = "";
        int mostAtoms = 1 + random.nextInt(6);
        for (int i = 0; i < 102; i++) {
            if (random.nextInt(3) == 0) {
                change(random, mostAtoms, x, slow);
            } else {
                question(random, x, slow);
            }
        }
    }

    public static void main(String[] args) {
        // The seed is fixed, so that every run of the test makes the same calls.
        Random random = new Random(20261115L);
        for (int i = 0; i < 3000 && wrong < 20; i++) {
            run(random);
            // These take longer, for the second program finds its models anew for each question.
            if (i % 5 == 0) {
                mixedRun(random);
            }
        }
        System.out.println(wrong == 0 ? "all answers are as due" : wrong + " answers are not as due");
        if (wrong != 0) {
            System.exit(1);
        }
    }
}
