/** One section for each promise of the document: ordinary inputs, named edges and wrong inputs. */
public final class PromisesTest {
    private static final int[] FAR_OUT = {
        Integer.MIN_VALUE, Integer.MIN_VALUE + 1, -65, -64, -33, -32, -2, -1,
        64, 65, 96, 127, 128, 256, 1 << 16, 1 << 30, Integer.MAX_VALUE
    };

    private static int wrong = 0;

    private static void due(String what, int got, int want) {
        if (got != want) {
            wrong++;
            System.out.println(what + " answered " + got + ", due is " + want);
        }
    }

    private static void due(String what, boolean got, boolean want) {
        if (got != want) {
            wrong++;
            System.out.println(what + " answered " + got + ", due is " + want);
        }
    }

    private static StableModels choices(int count) {
        StableModels x = new StableModels();
        for (int a = 0; a < count; a++) {
            x.add(StableModels.CHOICE, a, 0, 0);
        }
        return x;
    }

    private static StableModels full() {
        StableModels x = new StableModels();
        for (int r = 0; r < 10; r++) {
            due("1-10 add, rule " + r, x.add(StableModels.PLAIN, r % 6, 1 << r % 6, 0), r);
        }
        return x;
    }

    /** Has no stable model: atom 0 holds just when it does not. */
    private static StableModels contradiction() {
        StableModels x = new StableModels();
        x.add(StableModels.PLAIN, 0, 0, 1);
        return x;
    }

    private static void promise1() {
        StableModels x = new StableModels();
        due("1 rules", x.rules(), 0);
        due("1 models", x.models(), 1);
        due("1 model(0)", x.model(0), 0);
        due("1 support(63)", x.support(63), 0);
        for (int r = 0; r < 10; r++) {
            due("1 remove(" + r + ")", x.remove(r), false);
        }
        StableModels first = new StableModels();
        first.add(StableModels.PLAIN, 0, 0, 0);
        due("1 rules of another object", new StableModels().rules(), 0);
        due("1 models are the object's own", new StableModels().model(0), 0);
    }

    private static void promise2() {
        StableModels x = new StableModels();
        due("2 add PLAIN", x.add(StableModels.PLAIN, 5, 63, 63), 0);
        due("2 add CHOICE", x.add(StableModels.CHOICE, 0, 0, 0), 1);
        due("2 add BAN", x.add(StableModels.BAN, 0, 63, 0), 2);
        due("2 the same rule again", x.add(StableModels.CHOICE, 0, 0, 0), 3);
        x.remove(2);
        x.remove(0);
        due("2 least free number", x.add(StableModels.PLAIN, 1, 0, 0), 0);
        due("2 next free number", x.add(StableModels.PLAIN, 2, 0, 0), 2);
        due("2 number after the others", x.add(StableModels.PLAIN, 3, 0, 0), 4);
        due("2 the new rules count", x.model(0), 14);
        promise2Wrong();
        promise2BanHead();
        promise2Full();
    }

    private static void promise2Wrong() {
        StableModels x = new StableModels();
        for (int bad : FAR_OUT) {
            due("2 kind " + bad, x.add(bad, 0, 0, 0), StableModels.NONE);
            due("2 head " + bad, x.add(StableModels.PLAIN, bad, 0, 0), StableModels.NONE);
            due("2 choice head " + bad, x.add(StableModels.CHOICE, bad, 0, 0), StableModels.NONE);
            for (int kind = 0; kind < 3; kind++) {
                due("2 pos " + bad + " kind " + kind, x.add(kind, 0, bad, 0), StableModels.NONE);
                due("2 neg " + bad + " kind " + kind, x.add(kind, 0, 0, bad), StableModels.NONE);
            }
        }
        due("2 kind 3", x.add(3, 0, 0, 0), StableModels.NONE);
        due("2 head 6", x.add(StableModels.PLAIN, 6, 0, 0), StableModels.NONE);
        due("2 choice head 6", x.add(StableModels.CHOICE, 6, 0, 0), StableModels.NONE);
        due("2 head 32", x.add(StableModels.PLAIN, 32, 0, 0), StableModels.NONE);
        due("2 nothing was added", x.rules(), 0);
        due("2 models are unchanged", x.model(0), 0);
    }

    private static void promise2BanHead() {
        int[] heads = {0, 5, 6, 31, 32, -1, 63, Integer.MIN_VALUE, Integer.MAX_VALUE};
        for (int head : heads) {
            StableModels x = choices(2);
            due("2 BAN with head " + head, x.add(StableModels.BAN, head, 1, 2), 2);
            due("2 BAN's head is no atom, " + head, x.support(63), 3);
            due("2 BAN's head leaves the models, " + head, x.models(), 3);
            due("2 BAN bans, head " + head, x.stable(1), false);
        }
    }

    private static void promise2Full() {
        StableModels x = full();
        due("2 full", x.add(StableModels.PLAIN, 0, 0, 0), StableModels.FULL);
        due("2 full for BAN", x.add(StableModels.BAN, 77, 0, 0), StableModels.FULL);
        due("2 full, rules", x.rules(), 1023);
        due("2 full changes nothing", x.model(0), 0);
        x.remove(9);
        due("2 room again", x.add(StableModels.PLAIN, 0, 0, 0), 9);
        due("2 full again", x.add(StableModels.CHOICE, 1, 0, 0), StableModels.FULL);
        due("2 what rule 9 gives", x.model(0), 1);
    }

    private static void promise3() {
        StableModels x = choices(3);
        due("3 remove(1)", x.remove(1), true);
        due("3 rules after", x.rules(), 5);
        due("3 models after", x.models(), 4);
        due("3 remove(1) again", x.remove(1), false);
        due("3 remove(3), never there", x.remove(3), false);
        due("3 remove(10)", x.remove(10), false);
        due("3 remove(32), no wrap to 0", x.remove(32), false);
        for (int bad : FAR_OUT) {
            due("3 remove(" + bad + ")", x.remove(bad), false);
        }
        due("3 rules unchanged", x.rules(), 5);
        due("3 models unchanged", x.models(), 4);
        due("3 remove(0)", x.remove(0), true);
        due("3 remove(2)", x.remove(2), true);
        due("3 none left", x.rules(), 0);
        due("3 remove from none", x.remove(0), false);
        StableModels all = full();
        for (int r = 9; r >= 0; r--) {
            due("3 remove of ten, " + r, all.remove(r), true);
            due("3 rules of ten, " + r, all.rules(), (1 << r) - 1);
        }
    }

    private static void promise4() {
        StableModels x = new StableModels();
        due("4 none", x.rules(), 0);
        x.add(StableModels.BAN, 0, 1, 0);
        due("4 a BAN is a rule", x.rules(), 1);
        x.add(StableModels.CHOICE, 0, 0, 0);
        x.add(StableModels.PLAIN, 0, 0, 0);
        due("4 three", x.rules(), 7);
        x.remove(1);
        due("4 a gap", x.rules(), 5);
        x.add(9, 0, 0, 0);
        due("4 after a refused rule", x.rules(), 5);
        x.add(StableModels.CHOICE, 4, 0, 0);
        due("4 the gap is filled", x.rules(), 7);
        due("4 ten", full().rules(), 1023);
    }

    private static void promise5() {
        StableModels x = new StableModels();
        x.add(StableModels.PLAIN, 5, 16, 0);
        x.add(StableModels.PLAIN, 4, 8, 0);
        x.add(StableModels.PLAIN, 3, 4, 0);
        x.add(StableModels.PLAIN, 2, 2, 0);
        x.add(StableModels.PLAIN, 1, 1, 0);
        due("5 nothing to begin from", x.support(63), 0);
        x.add(StableModels.CHOICE, 0, 0, 32);
        due("5 choice out of m", x.support(0), 0);
        due("5 the longest chain, against the rules' order", x.support(1), 63);
        due("5 NEG of a choice in m", x.support(33), 0);
        due("5 NEG is read in m, not in the support", x.support(31), 63);
        x.add(StableModels.BAN, 3, 0, 0);
        due("5 a BAN does not change it", x.support(1), 63);
        for (int bad : FAR_OUT) {
            due("5 support(" + bad + ")", x.support(bad), StableModels.NONE);
        }
        StableModels y = new StableModels();
        y.add(StableModels.PLAIN, 0, 6, 8);
        y.add(StableModels.PLAIN, 1, 0, 0);
        due("5 POS not whole", y.support(7), 2);
        y.add(StableModels.CHOICE, 2, 0, 0);
        due("5 POS whole", y.support(4), 7);
        due("5 NEG of a plain rule in m", y.support(12), 6);
        due("5 POS is read in the support, not in m", y.support(2), 2);
        y.add(StableModels.BAN, 4, 0, 0);
        due("5 the head of a BAN in m", y.support(20), 7);
        StableModels loop = new StableModels();
        loop.add(StableModels.PLAIN, 0, 1, 0);
        loop.add(StableModels.CHOICE, 1, 2, 0);
        due("5 no atom supports itself", loop.support(3), 0);
    }

    private static void promise6() {
        StableModels x = new StableModels();
        x.add(StableModels.PLAIN, 0, 0, 2);
        x.add(StableModels.PLAIN, 1, 0, 1);
        due("6 stable(0)", x.stable(0), false);
        due("6 stable(1)", x.stable(1), true);
        due("6 stable(2)", x.stable(2), true);
        due("6 stable(3)", x.stable(3), false);
        x.add(StableModels.BAN, 0, 1, 2);
        due("6 banned", x.stable(1), false);
        due("6 a BAN whose NEG is in m", x.stable(2), true);
        x.add(StableModels.BAN, 0, 6, 0);
        due("6 a BAN whose POS is half in m", x.stable(2), true);
        x.add(StableModels.BAN, 0, 0, 0);
        due("6 an empty body bans all", x.stable(2), false);
        StableModels y = choices(6);
        due("6 stable(63)", y.stable(63), true);
        for (int bad : FAR_OUT) {
            due("6 stable(" + bad + ")", y.stable(bad), false);
            due("6 stable(" + bad + ") of no rules", new StableModels().stable(bad), false);
        }
        StableModels z = new StableModels();
        z.add(StableModels.PLAIN, 0, 2, 0);
        z.add(StableModels.PLAIN, 1, 1, 0);
        due("6 a loop founds nothing", z.stable(3), false);
        due("6 the empty set", z.stable(0), true);
    }

    private static void promise7() {
        for (int count = 0; count <= 6; count++) {
            due("7 choices " + count, choices(count).models(), 1 << count);
        }
        due("7 none", contradiction().models(), 0);
        StableModels x = choices(6);
        x.add(StableModels.BAN, 0, 0, 32);
        due("7 the greater half", x.models(), 32);
        x.add(StableModels.CHOICE, 0, 0, 0);
        due("7 two ways to one model count once", x.models(), 32);
    }

    private static void promise8() {
        StableModels x = choices(6);
        for (int k = 0; k < 64; k++) {
            due("8 model(" + k + ")", x.model(k), k);
        }
        for (int bad : FAR_OUT) {
            due("8 model(" + bad + ")", x.model(bad), StableModels.NONE);
        }
        x.add(StableModels.BAN, 0, 0, 1);
        due("8 least odd", x.model(0), 1);
        due("8 greatest odd", x.model(31), 63);
        due("8 past the last", x.model(32), StableModels.NONE);
        due("8 before the first", x.model(-1), StableModels.NONE);
        due("8 none", contradiction().model(0), StableModels.NONE);
        due("8 none, NONE asked", contradiction().model(-1), StableModels.NONE);
    }

    private static void promise9() {
        due("9 no rules", new StableModels().brave(), 0);
        due("9 no model", contradiction().brave(), 0);
        StableModels x = choices(3);
        due("9 choices", x.brave(), 7);
        x.add(StableModels.BAN, 0, 2, 0);
        due("9 a banned atom", x.brave(), 5);
        x.add(StableModels.BAN, 0, 5, 0);
        due("9 atoms of different models", x.brave(), 5);
        x.add(StableModels.PLAIN, 5, 0, 0);
        due("9 with a fact", x.brave(), 37);
    }

    private static void promise10() {
        due("10 no rules", new StableModels().cautious(), 0);
        due("10 no model", contradiction().cautious(), 63);
        StableModels x = choices(3);
        due("10 choices", x.cautious(), 0);
        x.add(StableModels.PLAIN, 5, 0, 0);
        due("10 a fact", x.cautious(), 32);
        x.add(StableModels.BAN, 0, 0, 2);
        due("10 a chosen atom that must be", x.cautious(), 34);
        StableModels all = choices(6);
        all.add(StableModels.PLAIN, 0, 0, 0);
        due("10 one fact among choices", all.cautious(), 1);
    }

    private static void promise11() {
        StableModels x = choices(6);
        for (int in = 0; in < 64; in++) {
            for (int out = 0; out < 64; out++) {
                int want = (in & out) == 0 ? in : StableModels.NONE;
                due("11 find(" + in + ", " + out + ")", choicesFind(in, out), want);
            }
        }
        for (int bad : FAR_OUT) {
            due("11 in " + bad, x.find(bad, 0), StableModels.NONE);
            due("11 out " + bad, x.find(0, bad), StableModels.NONE);
            due("11 both " + bad, x.find(bad, bad), StableModels.NONE);
        }
        due("11 none at all", contradiction().find(0, 0), StableModels.NONE);
        StableModels y = new StableModels();
        y.add(StableModels.PLAIN, 0, 0, 2);
        y.add(StableModels.PLAIN, 1, 0, 1);
        y.add(StableModels.CHOICE, 4, 2, 0);
        due("11 least", y.find(0, 0), 1);
        due("11 not the least", y.find(0, 1), 2);
        due("11 in above the least", y.find(16, 0), 18);
        due("11 in of different models", y.find(3, 0), StableModels.NONE);
        due("11 out of all", y.find(0, 3), StableModels.NONE);
    }

    private static int choicesFind(int in, int out) {
        return choices(6).find(in, out);
    }

    private static void promise12() {
        due("12 no rules", new StableModels().fewest(), 0);
        due("12 no model", contradiction().fewest(), StableModels.NONE);
        StableModels x = new StableModels();
        x.add(StableModels.PLAIN, 5, 0, 1);
        x.add(StableModels.CHOICE, 0, 0, 0);
        x.add(StableModels.PLAIN, 1, 1, 0);
        x.add(StableModels.PLAIN, 2, 1, 0);
        due("12 the least number is not the fewest", x.model(0), 7);
        due("12 fewest", x.fewest(), 1);
        x.add(StableModels.BAN, 0, 32, 0);
        due("12 the other one", x.fewest(), 3);
        StableModels all = choices(0);
        for (int a = 0; a < 6; a++) {
            all.add(StableModels.PLAIN, a, 0, 0);
            due("12 facts " + a, all.fewest(), a + 1);
        }
    }

    private static void promise13() {
        due("13 no rules", new StableModels().maximal(), 1);
        due("13 no model", contradiction().maximal(), 0);
        due("13 all sets", choices(6).maximal(), 1);
        StableModels x = choices(3);
        x.add(StableModels.BAN, 0, 3, 0);
        due("13 {0, 2} and {1, 2}", x.maximal(), 2);
        x.add(StableModels.BAN, 0, 5, 0);
        due("13 {0} and {1, 2}", x.maximal(), 2);
        x.add(StableModels.BAN, 0, 6, 0);
        due("13 the three single ones", x.maximal(), 3);
        StableModels y = new StableModels();
        y.add(StableModels.PLAIN, 0, 0, 2);
        y.add(StableModels.PLAIN, 1, 0, 1);
        due("13 two apart", y.maximal(), 2);
    }

    private static void promise14() {
        StableModels x = new StableModels();
        x.add(StableModels.PLAIN, 0, 0, 2);
        due("14 as many models, but others", x.matters(0), true);
        due("14 the rule is still there", x.rules(), 1);
        due("14 the model is still there", x.model(0), 1);
        x.add(StableModels.PLAIN, 0, 0, 4);
        due("14 either of two is enough, first", x.matters(0), false);
        due("14 either of two is enough, second", x.matters(1), false);
        due("14 no rule 2", x.matters(2), false);
        x.remove(0);
        due("14 a removed rule", x.matters(0), false);
        due("14 the one that is left", x.matters(1), true);
        x.add(StableModels.BAN, 0, 2, 0);
        due("14 a BAN of nothing", x.matters(0), false);
        x.add(StableModels.BAN, 0, 1, 0);
        due("14 a BAN of the one model", x.matters(2), true);
        due("14 no models either way", x.matters(0), false);
        due("14 rule 10", x.matters(10), false);
        due("14 rule 33, no wrap to 1", x.matters(33), false);
        due("14 rule 34, no wrap to 2", x.matters(34), false);
        for (int bad : FAR_OUT) {
            due("14 matters(" + bad + ")", x.matters(bad), false);
        }
        StableModels y = choices(6);
        y.add(StableModels.CHOICE, 5, 63, 0);
        y.add(StableModels.BAN, 0, 63, 0);
        due("14 a choice that gives set 63 nothing", y.matters(6), false);
        due("14 a BAN of set 63 alone", y.matters(7), true);
    }

    private static void promise15() {
        StableModels x = full();
        due("15 bad kind when full", x.add(3, 0, 0, 0), StableModels.NONE);
        due("15 negative kind when full", x.add(-1, 0, 0, 0), StableModels.NONE);
        due("15 bad head when full", x.add(StableModels.PLAIN, 6, 0, 0), StableModels.NONE);
        due("15 bad choice head when full", x.add(StableModels.CHOICE, -1, 0, 0), StableModels.NONE);
        due("15 bad pos when full", x.add(StableModels.PLAIN, 0, 64, 0), StableModels.NONE);
        due("15 bad neg when full", x.add(StableModels.PLAIN, 0, 0, -1), StableModels.NONE);
        due("15 bad BAN when full", x.add(StableModels.BAN, 0, 64, 0), StableModels.NONE);
        due("15 good rule when full", x.add(StableModels.PLAIN, 0, 0, 0), StableModels.FULL);
        due("15 good BAN when full", x.add(StableModels.BAN, -9, 0, 0), StableModels.FULL);
        due("15 nothing changed", x.rules(), 1023);
    }

    public static void main(String[] args) {
        promise1();
        promise2();
        promise3();
        promise4();
        promise5();
        promise6();
        promise7();
        promise8();
        promise9();
        promise10();
        promise11();
        promise12();
        promise13();
        promise14();
        promise15();
        System.out.println(wrong == 0 ? "all answers are as due" : wrong + " answers are not as due");
        if (wrong != 0) {
            System.exit(1);
        }
    }
}
