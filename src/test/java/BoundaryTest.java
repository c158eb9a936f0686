import java.util.ArrayList;
import java.util.List;
import java.util.function.Function;
import java.util.function.Supplier;
import java.util.stream.IntStream;

/**
 * A test of its own for each sentence of the document that names a boundary case, headed by the
 * sentence. No object is asked more than 512 times, save where the sentence is about that.
 */
public final class BoundaryTest {
    private static final int NONE = StableModels.NONE;
    private static final int FULL = StableModels.FULL;
    private static final int PLAIN = StableModels.PLAIN;
    private static final int CHOICE = StableModels.CHOICE;
    private static final int BAN = StableModels.BAN;

    private static String sentence = "";
    private static int checked = 0;
    private static int wrongHere = 0;
    private static int wrong = 0;

    private static void sentence(String text) {
        close();
        sentence = text;
        checked = 0;
        wrongHere = 0;
    }

    private static void close() {
        if (!sentence.isEmpty() && checked == 0) {
            wrong++;
            System.out.println("[" + sentence + "] tested nothing");
        }
    }

    private static void due(String what, Object got, Object want) {
        checked++;
        if (!got.equals(want)) {
            wrong++;
            wrongHere++;
            // One broken sentence may answer wrongly thousands of times.
            if (wrongHere <= 5) {
                System.out.println("[" + sentence + "] " + what + " answered " + got + ", due is " + want);
            }
        }
    }

    /** Numbers that are not 0 .. most: just past either end, far out, and equal to a good one modulo a power of two. */
    private static int[] outside(int most) {
        IntStream near = IntStream.rangeClosed(-70, most + 70);
        IntStream far = IntStream.rangeClosed(2, 31).flatMap(i -> IntStream.of(
            (1 << i) - 1, 1 << i, (1 << i) + 1, (1 << i) + most,
            -(1 << i) - 1, -(1 << i), 1 - (1 << i), most - (1 << i)));
        return IntStream.concat(near, far).filter(n -> n < 0 || n > most).distinct().toArray();
    }

    private static StableModels choices(int count) {
        StableModels x = new StableModels();
        for (int a = 0; a < count; a++) {
            x.add(CHOICE, a, 0, 0);
        }
        return x;
    }

    /** The set is the one stable model. */
    private static StableModels facts(int set) {
        StableModels x = new StableModels();
        for (int a = 0; a < 6; a++) {
            if ((set >> a & 1) == 1) {
                x.add(PLAIN, a, 0, 0);
            }
        }
        return x;
    }

    /** No stable model: every set is its own support, and every set is banned. */
    private static StableModels allBanned() {
        StableModels x = choices(6);
        x.add(BAN, 0, 0, 0);
        return x;
    }

    /** No stable model: atom 5 would hold just when it does not. */
    private static StableModels noneFounded() {
        StableModels x = choices(5);
        x.add(PLAIN, 5, 0, 32);
        return x;
    }

    private static List<StableModels> withoutModels() {
        return List.of(allBanned(), noneFounded());
    }

    /** Ten rules of all kinds; every one of the ten can be told from the answers. */
    private static StableModels ten() {
        StableModels x = choices(6);
        x.add(PLAIN, 5, 3, 0);
        x.add(PLAIN, 4, 0, 12);
        x.add(BAN, 0, 24, 0);
        x.add(BAN, 0, 0, 35);
        return x;
    }

    private static StableModels tenWithout(int gaps) {
        StableModels x = ten();
        for (int r = 0; r < 10; r++) {
            if ((gaps >> r & 1) == 1) {
                x.remove(r);
            }
        }
        return x;
    }

    /** Takes 139 calls. */
    private static String state(StableModels x) {
        StringBuilder text = new StringBuilder("rules " + x.rules());
        for (int m = 0; m < 64; m++) {
            text.append(' ').append(x.support(m)).append(x.stable(m) ? "!" : "");
        }
        for (int r = 0; r < 10; r++) {
            text.append(x.matters(r) ? " matters " : " idle ").append(r);
        }
        return text.toString();
    }

    private static void refused(String what, Supplier<StableModels> make, Function<StableModels, Object> call, Object want) {
        StableModels x = make.get();
        String before = state(x);
        due(what, call.apply(x), want);
        due(what + ", then the state", state(x), before);
    }

    private static boolean holds(int pos, int neg, int m) {
        return (pos & m) == pos && (neg & m) == 0;
    }

    // ---- What it is

    private static void calls512() {
        sentence("What it is: at most 512 calls; the 512th is still answered");
        lastCall("remove", x -> x.remove(9), false);
        lastCall("rules", x -> x.rules(), 127);
        lastCall("support", x -> x.support(21), 21);
        lastCall("stable", x -> x.stable(61), true);
        lastCall("models", x -> x.models(), 48);
        lastCall("model", x -> x.model(47), 62);
        lastCall("brave", x -> x.brave(), 63);
        lastCall("cautious", x -> x.cautious(), 0);
        lastCall("find", x -> x.find(2, 4), 2);
        lastCall("fewest", x -> x.fewest(), 0);
        lastCall("maximal", x -> x.maximal(), 2);
        lastCall("matters", x -> x.matters(6), true);
        lastCall("add that is refused", x -> x.add(PLAIN, 6, 0, 0), NONE);
        StableModels changed = new StableModels();
        for (int call = 1; call <= 511; call += 2) {
            due("add as call " + call, changed.add(PLAIN, 5, 0, 0), 0);
            due("remove as call " + (call + 1), changed.remove(0), true);
        }
        StableModels last = new StableModels();
        due("rules as call 1", last.rules(), 0);
        for (int call = 2; call <= 510; call += 2) {
            due("add as call " + call, last.add(BAN, 5, 0, 0), 0);
            due("remove as call " + (call + 1), last.remove(0), true);
        }
        due("add as call 512", last.add(PLAIN, 5, 0, 0), 0);
        StableModels full = ten();
        for (int call = 11; call <= 512; call++) {
            due("add as call " + call, full.add(PLAIN, 0, 0, 0), FULL);
        }
    }

    /** The object has been called seven times before, so that the last one is the 512th. */
    private static void lastCall(String what, Function<StableModels, Object> call, Object want) {
        StableModels x = choices(6);
        x.add(BAN, 0, 3, 0);
        for (int i = 8; i <= 512; i++) {
            due(what + " as call " + i, call.apply(x), want);
        }
    }

    private static void callsAfter512() {
        sentence("What it is: what later calls answer is free; LANGUAGE.md 7: they end and throw nothing");
        StableModels x = new StableModels();
        for (int i = 0; i < 2000; i++) {
            x.add(i % 4, i % 7, i % 65, i % 66);
            x.remove(i % 11);
            x.matters(i % 10);
        }
        due("the run ended", true, true);
        due("a new object after it", new StableModels().rules(), 0);
    }

    // ---- Terms

    private static void atomsAndSets() {
        sentence("Terms: atoms 0 .. 5; sets are numbers 0 .. 63 (bit a for atom a)");
        for (int a = 0; a < 6; a++) {
            StableModels x = new StableModels();
            due("add of atom " + a, x.add(PLAIN, a, 0, 0), 0);
            due("atom " + a + " as a set", x.model(0), 1 << a);
        }
        for (int set = 0; set < 64; set++) {
            due("the facts " + set, facts(set).model(0), set);
        }
    }

    private static void numbers() {
        sentence("Terms: at most ten rules, with numbers 0 .. 9");
        StableModels x = new StableModels();
        for (int r = 0; r < 10; r++) {
            due("add " + (r + 1), x.add(CHOICE, 0, 0, 0), r);
        }
        due("add 11", x.add(CHOICE, 0, 0, 0), FULL);
        due("rules", x.rules(), 1023);
    }

    private static void banHasNoHead() {
        sentence("Terms: BAN, which has no head");
        for (int head = -1; head <= 6; head++) {
            // One body holds in every set and one in some, so that a head would show.
            for (int pos = 0; pos <= 1; pos++) {
                StableModels x = choices(2);
                x.add(BAN, head, pos, 0);
                for (int m = 0; m < 64; m++) {
                    due("support(" + m + ") beside BAN " + head + " " + pos, x.support(m), m & 3);
                }
            }
        }
    }

    private static void bodies() {
        sentence("Terms: the body holds when POS is within M and no atom of NEG is in M");
        for (int pos = 0; pos < 64; pos++) {
            for (int neg = 0; neg < 64; neg++) {
                StableModels x = choices(6);
                x.add(BAN, 0, pos, neg);
                for (int m = 0; m < 64; m++) {
                    due("stable(" + m + ") beside BAN " + pos + " " + neg, x.stable(m), !holds(pos, neg, m));
                }
            }
        }
    }

    private static void plainRules() {
        sentence("Terms: the rules that are PLAIN, with no atom of NEG in M, whose POS is within S");
        for (int head = 0; head < 6; head++) {
            for (int pos = 0; pos < 64; pos++) {
                for (int neg = 0; neg < 64; neg++) {
                    StableModels x = choices(6);
                    x.add(PLAIN, head, pos, neg);
                    for (int m = 0; m < 64; m++) {
                        int want = holds(pos, neg, m) ? m | 1 << head : m;
                        due("support(" + m + ") of PLAIN " + head + " " + pos + " " + neg, x.support(m), want);
                    }
                }
            }
        }
    }

    private static void choiceRules() {
        sentence("Terms: those that are CHOICE and whose head is in M, with no atom of NEG in M");
        for (int head = 0; head < 6; head++) {
            for (int neg = 0; neg < 64; neg++) {
                StableModels x = new StableModels();
                x.add(CHOICE, head, 0, neg);
                for (int m = 0; m < 64; m++) {
                    int want = m & 1 << head;
                    due("support(" + m + ") of CHOICE " + head + " 0 " + neg, x.support(m), (neg & m) == 0 ? want : 0);
                }
            }
        }
    }

    private static void choiceBodies() {
        sentence("Terms: the head of a CHOICE is in S when its POS is within S");
        for (int head = 0; head < 6; head++) {
            for (int pos = 0; pos < 64; pos++) {
                for (int neg = 0; neg < 64; neg++) {
                    StableModels x = choices(6);
                    x.remove(head);
                    x.add(CHOICE, head, pos, neg);
                    for (int m = 0; m < 64; m++) {
                        int others = m & ~(1 << head);
                        int want = (neg & m) == 0 && (pos & others) == pos ? m : others;
                        due("support(" + m + ") of CHOICE " + head + " " + pos + " " + neg, x.support(m), want);
                    }
                }
            }
        }
    }

    private static void leastSet() {
        sentence("Terms: the support is the least set S");
        for (int a = 0; a < 6; a++) {
            StableModels self = new StableModels();
            self.add(PLAIN, a, 1 << a, 0);
            due("an atom from itself", self.support(63), 0);
            StableModels ring = new StableModels();
            for (int b = 0; b < 6; b++) {
                ring.add(b == a ? CHOICE : PLAIN, (b + 1) % 6, 1 << b, 0);
            }
            due("a ring of six", ring.support(63), 0);
            ring.add(PLAIN, a, 0, 0);
            due("a ring of six with a beginning", ring.support(63), 63);
        }
    }

    private static void longestChain() {
        sentence("Terms: the support reaches through all six atoms, whatever the rules' order");
        chains(new ArrayList<>());
    }

    private static void chains(List<Integer> order) {
        if (order.size() < 6) {
            for (int a = 0; a < 6; a++) {
                if (!order.contains(a)) {
                    order.add(a);
                    chains(order);
                    order.remove(order.size() - 1);
                }
            }
            return;
        }
        StableModels x = new StableModels();
        for (int a : order) {
            x.add(PLAIN, a, a == 0 ? 0 : 1 << a - 1, 0);
        }
        due("support of a chain in order " + order, x.support(0), 63);
    }

    private static void equalsItsSupport() {
        sentence("Terms: a stable model equals its support");
        for (int set = 0; set < 64; set++) {
            StableModels x = facts(set);
            for (int m = 0; m < 64; m++) {
                due("stable(" + m + ") of the facts " + set, x.stable(m), m == set);
            }
        }
    }

    private static void noBanHolds() {
        sentence("Terms: the body of no BAN holds in a stable model");
        for (int holding = 0; holding < 10; holding++) {
            StableModels x = new StableModels();
            for (int r = 0; r < 10; r++) {
                x.add(BAN, 0, r == holding ? 0 : 1, 0);
            }
            due("stable(0) when the one BAN that holds is rule " + holding, x.stable(0), false);
            x.remove(holding);
            due("stable(0) without it", x.stable(0), true);
        }
    }

    // ---- Promises

    private static void noRules() {
        sentence("Promise 1: No rules");
        ten();
        StableModels x = new StableModels();
        due("rules", x.rules(), 0);
        for (int m = 0; m < 64; m++) {
            due("support(" + m + ")", x.support(m), 0);
            due("stable(" + m + ")", x.stable(m), m == 0);
        }
        for (int r = 0; r < 10; r++) {
            due("remove(" + r + ")", x.remove(r), false);
            due("matters(" + r + ")", x.matters(r), false);
        }
        due("models", x.models(), 1);
        due("model(0)", x.model(0), 0);
        due("model(1)", x.model(1), NONE);
        due("brave", x.brave(), 0);
        due("cautious", x.cautious(), 0);
        due("find(0, 63)", x.find(0, 63), 0);
        due("find(1, 0)", x.find(1, 0), NONE);
        due("fewest", x.fewest(), 0);
        due("maximal", x.maximal(), 1);
        due("add", x.add(PLAIN, 0, 0, 0), 0);
    }

    private static void leastNumber() {
        sentence("Promise 2: Adds a rule and answers the least number that none has");
        for (int gaps = 1; gaps < 1024; gaps++) {
            StableModels x = tenWithout(gaps);
            int there = 1023 & ~gaps;
            for (int r = 0; r < 10; r++) {
                if ((gaps >> r & 1) == 1) {
                    due("add with the gaps " + gaps, x.add(CHOICE, 1, 0, 0), r);
                    there |= 1 << r;
                    due("rules after it", x.rules(), there);
                }
            }
            due("add with no gap left", x.add(CHOICE, 1, 0, 0), FULL);
        }
    }

    private static void addsTheRule() {
        sentence("Promise 2: the rule that is added is the one that was given");
        for (int r = 0; r < 10; r++) {
            StableModels x = new StableModels();
            for (int i = 0; i < 10; i++) {
                x.add(BAN, 3, 0, 0);
            }
            x.remove(r);
            x.add(PLAIN, 5, 0, 62);
            due("support(1) with the new rule " + r, x.support(1), 32);
            due("support(2) with the new rule " + r, x.support(2), 0);
            x.remove(r);
            x.add(CHOICE, 0, 0, 0);
            due("support(1) with the next rule " + r, x.support(1), 1);
            due("support(2) with the next rule " + r, x.support(2), 0);
        }
    }

    private static void wrongKind() {
        sentence("Promise 2: NONE when kind is not 0 .. 2");
        for (int kind = 0; kind <= 2; kind++) {
            due("kind " + kind, new StableModels().add(kind, 0, 0, 0), 0);
        }
        for (int kind : outside(2)) {
            refused("kind " + kind, () -> choices(3), x -> x.add(kind, 4, 0, 0), NONE);
        }
    }

    private static void wrongHead() {
        sentence("Promise 2: NONE when head is not 0 .. 5");
        for (int kind = PLAIN; kind <= CHOICE; kind++) {
            int fixed = kind;
            for (int head = 0; head <= 5; head++) {
                due("kind " + kind + " head " + head, new StableModels().add(kind, head, 0, 0), 0);
            }
            for (int head : outside(5)) {
                refused("kind " + kind + " head " + head, () -> choices(3), x -> x.add(fixed, head, 0, 0), NONE);
            }
        }
    }

    private static void anyHeadForBan() {
        sentence("Promise 2: for BAN it may be any int");
        IntStream.concat(IntStream.rangeClosed(0, 5), IntStream.of(outside(5))).forEach(head -> {
            StableModels x = choices(2);
            due("add of BAN " + head, x.add(BAN, head, 1, 2), 2);
            due("rules with BAN " + head, x.rules(), 7);
            due("stable(1) with BAN " + head, x.stable(1), false);
            due("models with BAN " + head, x.models(), 3);
            due("support(61) with BAN " + head, x.support(61), 1);
            due("matters of BAN " + head, x.matters(2), true);
            due("pos 64 for BAN " + head, x.add(BAN, head, 64, 0), NONE);
            due("neg -1 for BAN " + head, x.add(BAN, head, 0, -1), NONE);
        });
    }

    private static void wrongPos() {
        sentence("Promise 2: NONE when pos is not 0 .. 63");
        for (int kind = PLAIN; kind <= BAN; kind++) {
            int fixed = kind;
            for (int pos = 0; pos <= 63; pos++) {
                due("kind " + kind + " pos " + pos, new StableModels().add(kind, 0, pos, 0), 0);
            }
            for (int pos : outside(63)) {
                refused("kind " + kind + " pos " + pos, () -> choices(3), x -> x.add(fixed, 4, pos, 0), NONE);
            }
        }
    }

    private static void wrongNeg() {
        sentence("Promise 2: NONE when neg is not 0 .. 63");
        for (int kind = PLAIN; kind <= BAN; kind++) {
            int fixed = kind;
            for (int neg = 0; neg <= 63; neg++) {
                due("kind " + kind + " neg " + neg, new StableModels().add(kind, 0, 0, neg), 0);
            }
            for (int neg : outside(63)) {
                refused("kind " + kind + " neg " + neg, () -> choices(3), x -> x.add(fixed, 4, 0, neg), NONE);
            }
        }
    }

    private static void fullAtTen() {
        sentence("Promise 2: FULL when ten are there");
        refused("PLAIN", BoundaryTest::ten, x -> x.add(PLAIN, 3, 0, 0), FULL);
        refused("CHOICE", BoundaryTest::ten, x -> x.add(CHOICE, 5, 63, 63), FULL);
        refused("BAN", BoundaryTest::ten, x -> x.add(BAN, 99, 0, 0), FULL);
        for (int r = 0; r < 10; r++) {
            StableModels x = tenWithout(1 << r);
            due("the tenth, rule " + r, x.add(PLAIN, 3, 0, 0), r);
            due("the eleventh", x.add(PLAIN, 3, 0, 0), FULL);
        }
    }

    private static void removes() {
        sentence("Promise 3: Takes rule r away and answers true");
        for (int r = 0; r < 10; r++) {
            StableModels x = ten();
            due("remove(" + r + ")", x.remove(r), true);
            due("rules after it", x.rules(), 1023 & ~(1 << r));
        }
        StableModels x = choices(6);
        for (int r = 5; r >= 0; r--) {
            due("remove(" + r + ")", x.remove(r), true);
            due("brave after it", x.brave(), (1 << r) - 1);
        }
    }

    private static void removesNothing() {
        sentence("Promise 3: false, changing nothing, when there is none");
        for (int r = 0; r < 10; r++) {
            int fixed = r;
            refused("remove(" + r + ") of no rules", StableModels::new, x -> x.remove(fixed), false);
            refused("remove(" + r + ") again", () -> tenWithout(1 << fixed), x -> x.remove(fixed), false);
        }
        for (int r : outside(9)) {
            refused("remove(" + r + ") of ten", BoundaryTest::ten, x -> x.remove(r), false);
            due("remove(" + r + ") of no rules", new StableModels().remove(r), false);
        }
    }

    private static void rulesAsBits() {
        sentence("Promise 4: bit r for rule r");
        for (int gaps = 0; gaps < 1024; gaps++) {
            due("rules with the gaps " + gaps, tenWithout(gaps).rules(), 1023 & ~gaps);
        }
    }

    private static void supportOfNoSet() {
        sentence("Promise 5: NONE when m is not 0 .. 63");
        due("support(0), the least set", facts(63).support(0), 63);
        due("support(63), the greatest set", choices(6).support(63), 63);
        for (int m : outside(63)) {
            due("support(" + m + ") of no rules", new StableModels().support(m), NONE);
            refused("support(" + m + ") of ten", BoundaryTest::ten, x -> x.support(m), NONE);
        }
    }

    private static void stableOfNoSet() {
        sentence("Promise 6: false when m is not 0 .. 63");
        due("stable(0), the least set", choices(6).stable(0), true);
        due("stable(63), the greatest set", choices(6).stable(63), true);
        for (int m : outside(63)) {
            due("stable(" + m + ") of no rules", new StableModels().stable(m), false);
            due("stable(" + m + ") of all sets", choices(6).stable(m), false);
        }
    }

    private static void numberOfModels() {
        sentence("Promise 7: the number of stable models, 0 to 64");
        for (StableModels x : withoutModels()) {
            due("models when there is none", x.models(), 0);
        }
        for (int count = 0; count <= 6; count++) {
            due("models of " + count + " choices", choices(count).models(), 1 << count);
        }
        due("models of the fact 63", facts(63).models(), 1);
    }

    private static void modelByNumber() {
        sentence("Promise 8: exactly k lesser ones (as numbers)");
        StableModels all = choices(6);
        for (int k = 0; k < 64; k++) {
            due("model(" + k + ") of all sets", all.model(k), k);
        }
        StableModels x = new StableModels();
        x.add(CHOICE, 0, 0, 0);
        x.add(PLAIN, 1, 1, 0);
        x.add(PLAIN, 2, 1, 0);
        x.add(PLAIN, 5, 0, 1);
        due("model(0), lesser as a number, greater as a set", x.model(0), 7);
        due("model(1)", x.model(1), 32);
    }

    private static void noSuchModel() {
        sentence("Promise 8: NONE when there is none");
        for (int count = 0; count <= 6; count++) {
            due("the last of " + count + " choices", choices(count).model((1 << count) - 1), (1 << count) - 1);
            for (int k : outside((1 << count) - 1)) {
                due("model(" + k + ") of " + count + " choices", choices(count).model(k), NONE);
            }
        }
        for (StableModels x : withoutModels()) {
            for (int k = -1; k <= 64; k++) {
                due("model(" + k + ") when there are no models", x.model(k), NONE);
            }
        }
    }

    private static void braveAtoms() {
        sentence("Promise 9: the atoms that are in some stable model");
        for (StableModels x : withoutModels()) {
            due("brave when there is none", x.brave(), 0);
        }
        due("brave of the empty model", new StableModels().brave(), 0);
        for (int set = 0; set < 64; set++) {
            due("brave of the facts " + set, facts(set).brave(), set);
        }
        StableModels apart = choices(6);
        apart.add(BAN, 0, 0, 7);
        for (int pair : new int[] {3, 5, 6}) {
            apart.add(BAN, 0, pair, 0);
        }
        due("brave of atoms that are never together", apart.brave(), 63);
    }

    private static void cautiousAtoms() {
        sentence("Promise 10: the atoms that are in every stable model");
        for (int set = 0; set < 64; set++) {
            due("cautious of the facts " + set, facts(set).cautious(), set);
        }
        due("cautious of all sets", choices(6).cautious(), 0);
        for (int a = 0; a < 6; a++) {
            StableModels x = choices(6);
            x.add(BAN, 0, 0, 1 << a);
            due("cautious when atom " + a + " must be chosen", x.cautious(), 1 << a);
        }
    }

    private static void cautiousOfNone() {
        sentence("Promise 10: 63 when there is none");
        for (StableModels x : withoutModels()) {
            due("cautious when there is none", x.cautious(), 63);
        }
    }

    private static void leastFound() {
        sentence("Promise 11: the least stable model that has all atoms of in and none of out");
        for (int in = 0; in < 64; in++) {
            StableModels x = choices(6);
            x.add(BAN, 0, 0, 33);
            for (int out = 0; out < 64; out++) {
                int want = NONE;
                for (int m = 63; m >= 0; m--) {
                    want = !holds(0, 33, m) && holds(in, out, m) ? m : want;
                }
                due("find(" + in + ", " + out + ")", x.find(in, out), want);
            }
        }
    }

    private static void noneFound() {
        sentence("Promise 11: NONE when there is none");
        for (StableModels x : withoutModels()) {
            due("find(0, 0) when there are no models", x.find(0, 0), NONE);
            due("find(63, 0) when there are no models", x.find(63, 0), NONE);
            due("find(0, 63) when there are no models", x.find(0, 63), NONE);
        }
        for (int a = 0; a < 6; a++) {
            due("atom " + a + " in and out", choices(6).find(1 << a, 1 << a), NONE);
            due("in that no model has", new StableModels().find(1 << a, 0), NONE);
            due("out that every model has", facts(63).find(0, 1 << a), NONE);
        }
        due("find(63, 63)", choices(6).find(63, 63), NONE);
    }

    private static void wrongInOrOut() {
        sentence("Promise 11: NONE when in or out is not 0 .. 63");
        due("find(63, 0)", choices(6).find(63, 0), 63);
        due("find(0, 63)", choices(6).find(0, 63), 0);
        for (int bad : outside(63)) {
            due("find(" + bad + ", 0) of all sets", choices(6).find(bad, 0), NONE);
            due("find(0, " + bad + ") of all sets", choices(6).find(0, bad), NONE);
            due("find(" + bad + ", " + bad + ") of all sets", choices(6).find(bad, bad), NONE);
            due("find(0, " + bad + ") of no rules", new StableModels().find(0, bad), NONE);
            due("find(" + bad + ", 0) of the fact 63", facts(63).find(bad, 0), NONE);
        }
    }

    private static void fewestAtoms() {
        sentence("Promise 12: the least number of atoms, 0 to 6");
        for (int set = 0; set < 64; set++) {
            due("fewest of the facts " + set, facts(set).fewest(), Integer.bitCount(set));
        }
        due("fewest of all sets", choices(6).fewest(), 0);
        StableModels x = new StableModels();
        x.add(CHOICE, 0, 0, 0);
        x.add(PLAIN, 1, 1, 0);
        x.add(PLAIN, 5, 0, 1);
        due("fewest when the greater number has fewer atoms", x.fewest(), 1);
    }

    private static void fewestOfNone() {
        sentence("Promise 12: NONE when there is none");
        for (StableModels x : withoutModels()) {
            due("fewest when there is none", x.fewest(), NONE);
        }
    }

    private static void maximalModels() {
        sentence("Promise 13: subsets of no other one: how many there are");
        for (StableModels x : withoutModels()) {
            due("maximal when there is none", x.maximal(), 0);
        }
        for (int count = 0; count <= 6; count++) {
            due("maximal of " + count + " choices", choices(count).maximal(), 1);
        }
        StableModels pairs = new StableModels();
        for (int a = 0; a < 6; a += 2) {
            pairs.add(PLAIN, a, 0, 2 << a);
            pairs.add(PLAIN, a + 1, 0, 1 << a);
        }
        due("maximal of eight that are all apart", pairs.maximal(), 8);
        StableModels x = choices(6);
        for (int a = 0; a < 4; a++) {
            x.add(BAN, 0, 3 << a, 0);
        }
        due("maximal of sets without neighbours among atoms 0 .. 4", x.maximal(), 4);
    }

    private static void otherModels() {
        sentence("Promise 14: other stable models than it would have without rule r");
        for (int r = 0; r < 6; r++) {
            due("a rule whose lack leaves as many models, " + r, facts(63).matters(r), true);
            due("a choice whose lack leaves fewer, " + r, choices(6).matters(r), true);
        }
        due("a BAN whose lack leaves more", allBanned().matters(6), true);
        due("a rule whose lack leaves some for none", noneFounded().matters(5), true);
        due("a rule whose lack leaves none for none", allBanned().matters(0), false);
        for (int r = 0; r < 10; r++) {
            StableModels same = new StableModels();
            for (int i = 0; i < 10; i++) {
                same.add(PLAIN, 0, 0, 0);
            }
            due("one of ten that are the same, " + r, same.matters(r), false);
            int fixed = r;
            refused("the state after matters(" + r + ")", BoundaryTest::ten, x -> x.matters(fixed) || true, true);
        }
        StableModels far = choices(6);
        far.add(BAN, 0, 63, 0);
        far.add(BAN, 0, 0, 63);
        due("a BAN of the greatest set alone", far.matters(6), true);
        due("a BAN of the least set alone", far.matters(7), true);
    }

    private static void noRuleMatters() {
        sentence("Promise 14: false when there is no rule r");
        for (int r = 0; r < 10; r++) {
            due("matters(" + r + ") of no rules", new StableModels().matters(r), false);
            StableModels x = facts(63);
            x.remove(r);
            due("matters(" + r + ") when it was removed or never there", x.matters(r), false);
        }
        for (int r : outside(9)) {
            due("matters(" + r + ") of six that matter", facts(63).matters(r), false);
            refused("matters(" + r + ") of ten", BoundaryTest::ten, x -> x.matters(r), false);
        }
    }

    private static void noneBeforeFull() {
        sentence("Promise 15: NONE is tested before FULL");
        for (int bad : outside(63)) {
            refused("kind " + bad, BoundaryTest::ten, x -> x.add(bad, 0, 0, 0), NONE);
            for (int kind = PLAIN; kind <= BAN; kind++) {
                due("pos " + bad + " of kind " + kind, ten().add(kind, 0, bad, 0), NONE);
                due("neg " + bad + " of kind " + kind, ten().add(kind, 0, 0, bad), NONE);
            }
        }
        for (int bad : outside(5)) {
            due("head " + bad + " of PLAIN", ten().add(PLAIN, bad, 0, 0), NONE);
            due("head " + bad + " of CHOICE", ten().add(CHOICE, bad, 0, 0), NONE);
            due("head " + bad + " of BAN, which may be any", ten().add(BAN, bad, 0, 0), FULL);
        }
        due("kind 3", ten().add(3, 0, 0, 0), NONE);
        due("all four wrong", ten().add(3, 6, 64, 64), NONE);
    }

    private static void terms() {
        atomsAndSets();
        numbers();
        banHasNoHead();
        bodies();
        plainRules();
        choiceRules();
        choiceBodies();
        leastSet();
        longestChain();
        equalsItsSupport();
        noBanHolds();
    }

    private static void changes() {
        noRules();
        leastNumber();
        addsTheRule();
        wrongKind();
        wrongHead();
        anyHeadForBan();
        wrongPos();
        wrongNeg();
        fullAtTen();
        removes();
        removesNothing();
        rulesAsBits();
        noneBeforeFull();
    }

    private static void questions() {
        supportOfNoSet();
        stableOfNoSet();
        numberOfModels();
        modelByNumber();
        noSuchModel();
        braveAtoms();
        cautiousAtoms();
        cautiousOfNone();
        leastFound();
        noneFound();
        wrongInOrOut();
        fewestAtoms();
        fewestOfNone();
        maximalModels();
        otherModels();
        noRuleMatters();
    }

    public static void main(String[] args) {
        calls512();
        callsAfter512();
        terms();
        changes();
        questions();
        close();
        System.out.println(wrong == 0 ? "all answers are as due" : wrong + " answers are not as due");
        if (wrong != 0) {
            System.exit(1);
        }
    }
}
