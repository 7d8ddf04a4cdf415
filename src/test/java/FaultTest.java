/** Promise 8: what keeps a program from being closed. */
public final class FaultTest {
    private static final int INT_PLACE = 0;
    private static final int FIELD_PLACE = 5;
    private static final int METHOD_PLACE = 6;
    private static final int BEHIND = 11;

    public static void main(String[] args) {
        constantsOfEachKind();
        arguments();
        jumps();
        othersMayHaveAnyNumber();
        firstOne();
        mendedLater();
        otherPools();
        Check.finish();
    }

    /** Class 0 has field 0 (named 1), method 1 (named 2) and method 2 (named 1, one argument); class 1 nothing. */
    private static ShakenTree built() {
        ShakenTree t = new ShakenTree();
        t.add();
        t.add();
        t.constant(0, 0, 5, 0);
        t.constant(0, 1, 1, 0);
        t.constant(0, 1, 2, 0);
        t.constant(0, 2, 0, 0);
        t.constant(0, 2, 1, 0);
        t.constant(0, 3, 3, 1);
        t.constant(0, 4, 3, 2);
        t.constant(0, 3, 3, 2);
        t.constant(0, 4, 4, 1);
        t.constant(0, 3, 4, 1);
        t.constant(0, 4, 4, 2);
        t.member(0, 1, -1);
        t.member(0, 2, 0);
        t.member(0, 1, 1);
        return t;
    }

    private static void constantsOfEachKind() {
        int[] due = {INT_PLACE, FIELD_PLACE, FIELD_PLACE, METHOD_PLACE};
        for (int what = 0; what < 4; what++) {
            for (int place = -1; place <= BEHIND; place++) {
                ShakenTree t = built();
                t.code(2, what, place);
                Check.due("fault of " + what + " " + place, place == due[what] ? -1 : 200, t.fault());
            }
            for (int place : new int[] {Integer.MIN_VALUE, Integer.MAX_VALUE, 20}) {
                ShakenTree t = built();
                t.code(2, what, place);
                Check.due("fault of " + what + " " + place, 200, t.fault());
            }
        }
    }

    private static void arguments() {
        for (int arguments = 0; arguments <= 2; arguments++) {
            for (int n = -1; n <= 3; n++) {
                ShakenTree t = built();
                t.constant(1, 1, 7, 0);
                t.member(1, 0, arguments);
                t.code(3, 4, n);
                Check.due("ARG " + n + " of " + arguments, n >= 0 && n < arguments ? -1 : 300, t.fault());
            }
        }
    }

    private static void jumps() {
        for (int what = 9; what <= 10; what++) {
            for (int n = -1; n <= 3; n++) {
                ShakenTree t = built();
                t.code(1, 5, 0);
                t.code(1, what, n);
                t.code(1, 5, 0);
                Check.due("jump " + what + " to " + n, n >= 0 && n < 3 ? -1 : 101, t.fault());
            }
        }
    }

    private static void othersMayHaveAnyNumber() {
        ShakenTree t = built();
        for (int what : new int[] {5, 6, 7, 8, 11, 12}) {
            t.code(1, what, Integer.MIN_VALUE);
            t.code(1, what, 99);
        }
        Check.due("any numbers", -1, t.fault());
    }

    private static void firstOne() {
        ShakenTree t = built();
        t.code(2, 5, 0);
        t.code(2, 10, 5);
        t.code(2, 10, 6);
        Check.due("the first instruction", 201, t.fault());
        t.code(1, 5, 0);
        t.code(1, 5, 0);
        t.code(1, 5, 0);
        t.code(1, 0, 1);
        Check.due("the first method", 103, t.fault());
        Check.argument("run of a method of it", () -> t.run(false, 1, 0, 0));
        t.entry(1, true);
        Check.state("shake of it", t::shake);
        Check.due("nothing was shaken", 0, t.count(true, 1));
    }

    private static void mendedLater() {
        ShakenTree t = built();
        t.code(1, 10, 1);
        Check.due("a jump behind", 100, t.fault());
        t.code(1, 3, 10);
        Check.due("no method yet", 101, t.fault());
        t.constant(1, 1, 2, 0);
        t.member(1, 0, -1);
        Check.due("a field does not mend it", 101, t.fault());
        t.member(1, 0, 2);
        Check.due("a method does", -1, t.fault());
        for (int k = 2; k < 20; k++) {
            t.code(1, 10, 19);
        }
        Check.due("the last instruction", -1, t.fault());
    }

    /** An instruction's place is one of the pool of its own method's class. */
    private static void otherPools() {
        ShakenTree t = built();
        t.constant(1, 1, 2, 0);
        t.constant(1, 0, 2, 0);
        t.member(1, 0, 0);
        t.code(3, 0, 1);
        Check.due("an INT of its own pool", -1, t.fault());
        t.code(3, 0, 0);
        Check.due("an INT of another pool", 301, t.fault());
    }
}
