/** Promises 1 to 7: building the whole program, and promises 10 to 14 as they tell of it. */
public final class BuildTest {
    private static final int[] ODD = {Integer.MIN_VALUE, -2, -1, 6, 7, 30, 99, Integer.MAX_VALUE};

    public static void main(String[] args) {
        newObject();
        classes();
        constants();
        constantLimits();
        constantOrder();
        members();
        memberLimits();
        memberOrder();
        instructions();
        entries();
        cleared();
        clearedAndBuiltAnew();
        told();
        throwsChangeNothing();
        Check.finish();
    }

    private static void newObject() {
        ShakenTree t = new ShakenTree();
        for (int what = 0; what < 3; what++) {
            Check.due("new count(false, " + what, 0, t.count(false, what));
            Check.due("new count(true, " + what, 0, t.count(true, what));
        }
        Check.due("new fault()", -1, t.fault());
        Check.state("new shake()", t::shake);
        for (boolean shaken : new boolean[] {false, true}) {
            Check.index("new pool", () -> t.pool(shaken, 0));
            Check.index("new constantAt", () -> t.constantAt(shaken, 0, 0, 0));
            Check.index("new memberAt", () -> t.memberAt(shaken, 0, 0));
            Check.index("new codeAt", () -> t.codeAt(shaken, 0, 0));
            Check.index("new run", () -> t.run(shaken, 0, 0, 0));
        }
        for (int odd : ODD) {
            Check.due("new moved(" + odd, -1, t.moved(odd));
        }
        Check.due("new moved(0)", -1, t.moved(0));
        Check.index("new constant", () -> t.constant(0, 0, 0, 0));
        Check.index("new member", () -> t.member(0, 0, 0));
        Check.index("new code", () -> t.code(0, 0, 0));
        Check.index("new entry", () -> t.entry(0, true));
    }

    private static void classes() {
        ShakenTree t = new ShakenTree();
        for (int c = 0; c < 6; c++) {
            Check.due("add", c, t.add());
            Check.due("classes", c + 1, t.count(false, 0));
            Check.due("its pool", 0, t.pool(false, c));
        }
        Check.state("a seventh add", t::add);
        Check.due("classes after it", 6, t.count(false, 0));
        Check.due("no class is shaken", 0, t.count(true, 0));
        Check.index("pool(false, 6)", () -> t.pool(false, 6));
        Check.index("pool(false, -1)", () -> t.pool(false, -1));
    }

    private static void constants() {
        ShakenTree t = new ShakenTree();
        t.add();
        Check.due("INT", 0, t.constant(0, 0, Integer.MIN_VALUE, 9));
        Check.due("NAME 0", 1, t.constant(0, 1, 0, 9));
        Check.due("NAME 99", 2, t.constant(0, 1, 99, 9));
        Check.due("the same NAME again", 3, t.constant(0, 1, 99, 9));
        Check.argument("a CLASS that is not there yet", () -> t.constant(0, 2, 1, 0));
        t.add();
        Check.due("a CLASS that is there by now", 4, t.constant(0, 2, 1, 9));
        Check.due("its own CLASS", 5, t.constant(0, 2, 0, -9));
        Check.due("FIELD", 6, t.constant(0, 3, 4, 2));
        Check.due("METHOD", 7, t.constant(0, 4, 5, 1));
        Check.due("the other class", 0, t.constant(1, 0, 5, 0));
        Check.due("pool 0", 8, t.pool(false, 0));
        Check.due("pool 1", 1, t.pool(false, 1));
        int[][] want = {
            {0, Integer.MIN_VALUE, 0}, {1, 0, 0}, {1, 99, 0}, {1, 99, 0}, {2, 1, 0}, {2, 0, 0}, {3, 4, 2}, {4, 5, 1},
        };
        for (int p = 0; p < want.length; p++) {
            for (int what = 0; what < 3; what++) {
                Check.due("constantAt " + p + " " + what, want[p][what], t.constantAt(false, 0, p, what));
            }
        }
        wrongConstants(t);
        Check.due("pool 0 after wrong ones", 8, t.pool(false, 0));
    }

    private static void wrongConstants(ShakenTree t) {
        Check.argument("kind -1", () -> t.constant(0, -1, 0, 0));
        Check.argument("kind 5", () -> t.constant(0, 5, 0, 0));
        Check.argument("NAME -1", () -> t.constant(0, 1, -1, 0));
        Check.argument("NAME 100", () -> t.constant(0, 1, 100, 0));
        Check.argument("CLASS -1", () -> t.constant(0, 2, -1, 0));
        Check.argument("CLASS 2", () -> t.constant(0, 2, 2, 0));
        for (int kind = 3; kind <= 4; kind++) {
            int k = kind;
            Check.argument("a is no CLASS", () -> t.constant(0, k, 1, 1));
            Check.argument("a is an INT", () -> t.constant(0, k, 0, 1));
            Check.argument("a is a FIELD", () -> t.constant(0, k, 6, 1));
            Check.argument("b is no NAME", () -> t.constant(0, k, 4, 4));
            Check.argument("b is an INT", () -> t.constant(0, k, 4, 0));
            Check.argument("a is -1", () -> t.constant(0, k, -1, 1));
            Check.argument("a is itself", () -> t.constant(0, k, 8, 1));
            Check.argument("b is -1", () -> t.constant(0, k, 4, -1));
            Check.argument("b is behind the pool", () -> t.constant(0, k, 4, 8));
            Check.argument("b is far behind", () -> t.constant(0, k, 4, Integer.MAX_VALUE));
            Check.argument("CLASS and NAME of another pool", () -> t.constant(1, k, 4, 1));
        }
        Check.index("class -1", () -> t.constant(-1, 0, 0, 0));
        Check.index("class 2", () -> t.constant(2, 0, 0, 0));
    }

    private static void constantLimits() {
        ShakenTree t = new ShakenTree();
        t.add();
        t.add();
        for (int p = 0; p < 20; p++) {
            Check.due("constant " + p, p, t.constant(0, 0, -p, 0));
        }
        Check.state("a 21st constant", () -> t.constant(0, 0, 1, 0));
        Check.due("pool", 20, t.pool(false, 0));
        Check.due("the last one", -19, t.constantAt(false, 0, 19, 1));
        Check.due("another class has room", 0, t.constant(1, 1, 1, 0));
    }

    private static void constantOrder() {
        ShakenTree t = new ShakenTree();
        t.add();
        for (int p = 0; p < 20; p++) {
            t.constant(0, 1, p, 0);
        }
        Check.index("no class before a wrong kind", () -> t.constant(1, 9, 0, 0));
        Check.argument("a wrong kind before a full pool", () -> t.constant(0, 9, 0, 0));
        Check.argument("a wrong NAME before a full pool", () -> t.constant(0, 1, 100, 0));
        Check.argument("a wrong CLASS before a full pool", () -> t.constant(0, 2, 1, 0));
        Check.argument("a wrong FIELD before a full pool", () -> t.constant(0, 3, 0, 0));
        Check.state("a full pool", () -> t.constant(0, 2, 0, 0));
    }

    private static void members() {
        ShakenTree t = new ShakenTree();
        t.add();
        t.add();
        t.constant(0, 1, 8, 0);
        t.constant(0, 1, 8, 0);
        t.constant(0, 1, 9, 0);
        t.constant(0, 0, 8, 0);
        t.constant(1, 1, 8, 0);
        Check.due("a field", 0, t.member(0, 0, -1));
        Check.due("a method with the field's name", 1, t.member(0, 0, 2));
        Check.due("the name in another class", 2, t.member(1, 0, 0));
        Check.due("a field there", 3, t.member(1, 0, -1));
        Check.argument("a field's name again", () -> t.member(0, 0, -1));
        Check.argument("a field's name at another place", () -> t.member(0, 1, -1));
        Check.argument("a method's name again, other arguments", () -> t.member(0, 0, 1));
        Check.argument("a method's name at another place", () -> t.member(0, 1, 2));
        Check.due("another name", 4, t.member(0, 2, 1));
        Check.argument("no NAME there", () -> t.member(0, 3, 0));
        Check.argument("place -1", () -> t.member(0, -1, 0));
        Check.argument("place 4", () -> t.member(0, 4, 0));
        Check.argument("place of another pool", () -> t.member(1, 2, 0));
        Check.argument("arguments -2", () -> t.member(0, 2, -2));
        Check.argument("arguments 3", () -> t.member(1, 0, 3));
        Check.index("class -1", () -> t.member(-1, 0, 0));
        Check.index("class 2", () -> t.member(2, 0, 0));
        Check.due("members", 5, t.count(false, 1));
    }

    private static void memberLimits() {
        ShakenTree t = new ShakenTree();
        t.add();
        t.add();
        for (int p = 0; p < 20; p++) {
            t.constant(0, 1, p, 0);
            t.constant(1, 1, p, 0);
        }
        for (int m = 0; m < 30; m++) {
            Check.due("member " + m, m, t.member(m % 2, m / 2, m % 3));
        }
        Check.state("a 31st method", () -> t.member(0, 15, 0));
        Check.state("a 31st member, a field", () -> t.member(1, 0, -1));
        Check.due("members", 30, t.count(false, 1));
    }

    private static void memberOrder() {
        ShakenTree t = new ShakenTree();
        t.add();
        for (int p = 0; p < 15; p++) {
            t.constant(0, 1, p, 0);
            t.member(0, p, -1);
            t.member(0, p, 0);
        }
        t.constant(0, 0, 0, 0);
        t.constant(0, 1, 50, 0);
        Check.index("no class before a wrong name", () -> t.member(1, 99, 9));
        Check.argument("no NAME before too many", () -> t.member(0, 15, 0));
        Check.argument("arguments before too many", () -> t.member(0, 16, 3));
        Check.argument("a name that is had before too many", () -> t.member(0, 3, 0));
        Check.state("too many", () -> t.member(0, 16, 0));
    }

    private static void instructions() {
        ShakenTree t = new ShakenTree();
        t.add();
        t.constant(0, 1, 0, 0);
        t.member(0, 0, -1);
        t.member(0, 0, 0);
        Check.index("code of a field", () -> t.code(0, 0, 0));
        Check.index("code of no member", () -> t.code(2, 0, 0));
        Check.index("code of -1", () -> t.code(-1, 0, 0));
        Check.argument("what -1", () -> t.code(1, -1, 0));
        Check.argument("what 13", () -> t.code(1, 13, 0));
        Check.index("no method before a wrong what", () -> t.code(0, 13, 0));
        for (int k = 0; k < 20; k++) {
            Check.due("code " + k, k, t.code(1, k % 13, k * 7 - 50));
        }
        Check.state("a 21st instruction", () -> t.code(1, 0, 0));
        Check.argument("a wrong what before too many", () -> t.code(1, 13, 0));
        for (int k = 0; k < 20; k++) {
            Check.due("codeAt " + k, 1000 * (k % 13) + k * 7 - 50, t.codeAt(false, 1, k));
        }
        Check.index("codeAt 20", () -> t.codeAt(false, 1, 20));
        Check.index("codeAt -1", () -> t.codeAt(false, 1, -1));
        Check.index("codeAt of a field", () -> t.codeAt(false, 0, 0));
        Check.index("codeAt of no member", () -> t.codeAt(false, 2, 0));
        Check.index("codeAt of -1", () -> t.codeAt(false, -1, 0));
        Check.due("instructions of it", 20, t.memberAt(false, 1, 3));
        Check.due("instructions of a field", 0, t.memberAt(false, 0, 3));
    }

    private static void entries() {
        ShakenTree t = new ShakenTree();
        t.add();
        t.constant(0, 1, 0, 0);
        t.constant(0, 1, 1, 0);
        t.member(0, 0, -1);
        t.member(0, 0, 0);
        t.member(0, 1, 0);
        Check.index("a field as entry", () -> t.entry(0, true));
        Check.index("a field as no entry", () -> t.entry(0, false));
        Check.index("entry -1", () -> t.entry(-1, true));
        Check.index("entry 3", () -> t.entry(3, false));
        Check.due("no entries", 0, t.count(false, 2));
        t.entry(1, false);
        Check.due("still none", 0, t.count(false, 2));
        t.entry(1, true);
        t.entry(1, true);
        Check.due("one", 1, t.count(false, 2));
        t.entry(2, true);
        Check.due("two", 2, t.count(false, 2));
        t.entry(1, false);
        Check.due("one again", 1, t.count(false, 2));
        Check.due("the first is none", 0, t.memberAt(false, 1, 4));
        Check.due("the second is one", 1, t.memberAt(false, 2, 4));
        Check.due("nothing is shaken by that", 0, t.count(true, 2));
    }

    private static void cleared() {
        ShakenTree t = small();
        t.shake();
        t.clear();
        for (int what = 0; what < 3; what++) {
            Check.due("cleared count " + what, 0, t.count(false, what));
        }
        Check.index("cleared pool", () -> t.pool(false, 0));
        Check.index("cleared member", () -> t.memberAt(false, 0, 0));
        Check.index("cleared run", () -> t.run(false, 0, 0, 0));
        Check.due("cleared fault", -1, t.fault());
        Check.state("cleared shake", t::shake);
        Check.due("the shaken one stays", 1, t.count(true, 1));
        Check.due("it runs", 7, t.run(true, 0, 0, 0));
        Check.due("moved stays", 0, t.moved(0));
    }

    private static void clearedAndBuiltAnew() {
        ShakenTree t = small();
        t.code(0, 10, 9);
        t.clear();
        Check.due("add", 0, t.add());
        Check.due("its pool is empty", 0, t.pool(false, 0));
        Check.index("no old constant", () -> t.constantAt(false, 0, 0, 0));
        Check.argument("no old name", () -> t.member(0, 0, 0));
        t.constant(0, 1, 3, 0);
        Check.due("member", 0, t.member(0, 0, 0));
        Check.due("it has no old instructions", 0, t.memberAt(false, 0, 3));
        Check.due("it is no old entry", 0, t.memberAt(false, 0, 4));
        Check.due("no fault of old", -1, t.fault());
        Check.state("no entry of old", t::shake);
        for (int c = 1; c < 6; c++) {
            Check.due("add", c, t.add());
        }
    }

    /** One class with NAME 5, INT 7 and a method that answers 7, an entry. */
    private static ShakenTree small() {
        ShakenTree t = new ShakenTree();
        t.add();
        t.constant(0, 1, 5, 0);
        t.constant(0, 0, 7, 0);
        t.member(0, 0, 0);
        t.code(0, 0, 1);
        t.code(0, 11, 0);
        t.entry(0, true);
        return t;
    }

    private static void told() {
        ShakenTree t = small();
        t.add();
        t.constant(1, 0, 0, 0);
        t.constant(1, 1, 66, 0);
        t.member(1, 1, -1);
        int[][] want = {{0, 0, 0, 2, 1, 5}, {1, 1, -1, 0, 0, 66}};
        for (int m = 0; m < 2; m++) {
            for (int what = 0; what < 6; what++) {
                Check.due("memberAt " + m + " " + what, want[m][what], t.memberAt(false, m, what));
            }
        }
        Check.argument("memberAt what 6", () -> t.memberAt(false, 0, 6));
        Check.argument("memberAt what -1", () -> t.memberAt(false, 0, -1));
        Check.index("memberAt 2", () -> t.memberAt(false, 2, 6));
        Check.index("memberAt -1", () -> t.memberAt(false, -1, 6));
        Check.argument("constantAt what 3", () -> t.constantAt(false, 0, 0, 3));
        Check.argument("constantAt what -1", () -> t.constantAt(false, 0, 0, -1));
        Check.index("constantAt place 2", () -> t.constantAt(false, 0, 2, 3));
        Check.index("constantAt place -1", () -> t.constantAt(false, 0, -1, 3));
        Check.index("constantAt class 2", () -> t.constantAt(false, 2, 0, 3));
        Check.index("constantAt class -1", () -> t.constantAt(false, -1, 0, 0));
        for (boolean shaken : new boolean[] {false, true}) {
            Check.argument("count what 3", () -> t.count(shaken, 3));
            Check.argument("count what -1", () -> t.count(shaken, -1));
        }
        t.code(0, 12, Integer.MAX_VALUE);
        Check.due("a number wraps", 12000 + Integer.MAX_VALUE, t.codeAt(false, 0, 2));
    }

    private static void throwsChangeNothing() {
        ShakenTree t = small();
        Check.thrownBy(() -> t.constant(0, 3, 0, 0));
        Check.thrownBy(() -> t.member(0, 0, 1));
        Check.thrownBy(() -> t.code(0, 13, 0));
        Check.thrownBy(() -> t.entry(5, false));
        Check.due("pool", 2, t.pool(false, 0));
        Check.due("members", 1, t.count(false, 1));
        Check.due("arguments", 0, t.memberAt(false, 0, 2));
        Check.due("instructions", 2, t.memberAt(false, 0, 3));
        Check.due("entries", 1, t.count(false, 2));
    }
}
