/** Promise 16: runs of methods; each is made in the whole program and again in the shaken one. */
public final class RunTest {
    private static final int PUSH = 0;
    private static final int GET = 1;
    private static final int PUT = 2;
    private static final int CALL = 3;
    private static final int ARG = 4;
    private static final int ADD = 5;
    private static final int SUB = 6;
    private static final int MUL = 7;
    private static final int DIV = 8;
    private static final int ZERO = 9;
    private static final int GO = 10;
    private static final int RETURN = 11;
    private static final int THROW = 12;

    /** Places in the pool that built() makes. */
    private static final int INT_0 = 0;
    private static final int INT_1 = 1;
    private static final int FIELD = 4;

    private static final Class<IllegalStateException> STATE = IllegalStateException.class;
    private static final Class<ArithmeticException> ARITHMETIC = ArithmeticException.class;
    private static final Class<UnsupportedOperationException> THROWN = UnsupportedOperationException.class;

    public static void main(String[] args) {
        arithmetic();
        division();
        argumentsOf();
        orderOfArguments();
        fields();
        jumps();
        stackIsFull();
        stackIsEmpty();
        noNextInstruction();
        openMethods();
        openMethodsMayEnd();
        steps();
        stepsOfAllMethods();
        callPushesLast();
        ownStacks();
        noSuchMethod();
        Check.finish();
    }

    /** One class with methods 0 .. that have these arguments, and behind them a field. */
    private static ShakenTree built(int... arguments) {
        ShakenTree t = new ShakenTree();
        t.add();
        t.constant(0, 0, 0, 0);
        t.constant(0, 0, 1, 0);
        int owner = t.constant(0, 2, 0, 0);
        int field = t.constant(0, 1, 9, 0);
        t.constant(0, 3, owner, field);
        for (int m = 0; m < arguments.length; m++) {
            int name = t.constant(0, 1, 50 + m, 0);
            t.constant(0, 4, owner, name);
            t.member(0, name, arguments[m]);
        }
        t.member(0, field, -1);
        return t;
    }

    /** The place of the METHOD that means method m of built(). */
    private static int methodAt(int m) {
        return 6 + 2 * m;
    }

    /** Appends instructions, each a what and a number. */
    private static ShakenTree code(ShakenTree t, int method, int... pairs) {
        for (int k = 0; k < pairs.length; k += 2) {
            t.code(method, pairs[k], pairs[k + 1]);
        }
        return t;
    }

    private static ShakenTree times(ShakenTree t, int method, int many, int what, int number) {
        for (int k = 0; k < many; k++) {
            t.code(method, what, number);
        }
        return t;
    }

    private static void gives(String run, ShakenTree t, int x, int y, int want) {
        Check.due(run + " whole", want, t.run(false, 0, x, y));
        t.entry(0, true);
        t.shake();
        Check.due(run + " shaken", want, t.run(true, t.moved(0), x, y));
    }

    private static void fails(String run, ShakenTree t, int x, int y, Class<? extends RuntimeException> want) {
        Check.throwing(run + " whole", want, () -> t.run(false, 0, x, y));
        t.entry(0, true);
        t.shake();
        Check.throwing(run + " shaken", want, () -> t.run(true, t.moved(0), x, y));
    }

    private static ShakenTree operation(int what) {
        return code(built(2), 0, ARG, 0, ARG, 1, what, 0, RETURN, 0);
    }

    private static void arithmetic() {
        int most = Integer.MAX_VALUE;
        int least = Integer.MIN_VALUE;
        gives("ADD", operation(ADD), 7, 3, 10);
        gives("ADD wraps", operation(ADD), most, 1, least);
        gives("SUB", operation(SUB), 7, 3, 4);
        gives("SUB wraps", operation(SUB), least, 1, most);
        gives("MUL", operation(MUL), -7, 3, -21);
        gives("MUL wraps", operation(MUL), most, most, 1);
    }

    private static void division() {
        gives("DIV", operation(DIV), 7, 2, 3);
        gives("DIV of a negative", operation(DIV), -7, 2, -3);
        gives("DIV by a negative", operation(DIV), 7, -2, -3);
        gives("DIV of both", operation(DIV), -7, -2, 3);
        gives("DIV wraps", operation(DIV), Integer.MIN_VALUE, -1, Integer.MIN_VALUE);
        gives("DIV of 0", operation(DIV), 0, 5, 0);
        gives("DIV by 1", operation(DIV), 5, 1, 5);
        fails("DIV by 0", operation(DIV), 5, 0, ARITHMETIC);
        fails("DIV 0 by 0", operation(DIV), 0, 0, ARITHMETIC);
        fails("DIV with a alone missing", code(built(0), 0, PUSH, INT_0, DIV, 0), 0, 0, STATE);
    }

    private static void argumentsOf() {
        gives("first of one", code(built(1), 0, ARG, 0, RETURN, 0), 4, 5, 4);
        gives("first of two", code(built(2), 0, ARG, 0, RETURN, 0), 4, 5, 4);
        gives("second of two", code(built(2), 0, ARG, 1, RETURN, 0), 4, 5, 5);
    }

    private static void orderOfArguments() {
        ShakenTree two = code(built(2, 2), 0, ARG, 0, ARG, 1, CALL, methodAt(1), RETURN, 0);
        gives("CALL with two", code(two, 1, ARG, 0, ARG, 1, SUB, 0, RETURN, 0), 9, 4, 5);
        ShakenTree one = code(built(2, 1), 0, ARG, 0, ARG, 1, CALL, methodAt(1), SUB, 0, RETURN, 0);
        gives("CALL with one", code(one, 1, ARG, 0, ARG, 0, MUL, 0, RETURN, 0), 30, 4, 14);
        ShakenTree none = code(built(2, 0), 0, ARG, 0, CALL, methodAt(1), SUB, 0, RETURN, 0);
        gives("CALL with none", code(none, 1, PUSH, INT_1, RETURN, 0), 30, 4, 29);
        ShakenTree own = code(built(1, 1), 0, PUSH, INT_1, CALL, methodAt(1), ARG, 0, SUB, 0, RETURN, 0);
        gives("its own arguments stay", code(own, 1, ARG, 0, RETURN, 0), 30, 4, -29);
    }

    private static void fields() {
        ShakenTree t = code(built(1, 0), 0, GET, FIELD, ARG, 0, PUT, FIELD, CALL, methodAt(1), ADD, 0, RETURN, 0);
        code(t, 1, GET, FIELD, GET, FIELD, ADD, 0, RETURN, 0);
        gives("a field is 0 and then set", t, 21, 0, 42);
        gives("it is 0 in each run", t, 4, 0, 8);
        fails("PUT of nothing", code(built(0), 0, PUT, FIELD), 0, 0, STATE);
    }

    private static void jumps() {
        ShakenTree t = code(built(1), 0, ARG, 0, ZERO, 4, PUSH, INT_0, RETURN, 0, PUSH, INT_1, RETURN, 0);
        gives("ZERO of 0", t, 0, 0, 1);
        gives("ZERO of 1", t, 1, 0, 0);
        gives("ZERO of -1", t, -1, 0, 0);
        gives("ZERO pops", code(built(0), 0, PUSH, INT_1, PUSH, INT_0, ZERO, 3, RETURN, 0), 0, 0, 1);
        gives("GO", code(built(0), 0, PUSH, INT_1, GO, 3, THROW, 0, RETURN, 0), 0, 0, 1);
        fails("ZERO of nothing", code(built(0), 0, ZERO, 0), 0, 0, STATE);
    }

    private static void stackIsFull() {
        gives("eight", code(times(built(0), 0, 8, PUSH, INT_1), 0, RETURN, 0), 0, 0, 1);
        fails("nine", code(times(built(0), 0, 9, PUSH, INT_1), 0, RETURN, 0), 0, 0, STATE);
        fails("GET", code(times(built(0), 0, 8, PUSH, INT_1), 0, GET, FIELD, RETURN, 0), 0, 0, STATE);
        fails("ARG", code(times(built(1), 0, 8, PUSH, INT_1), 0, ARG, 0, RETURN, 0), 0, 0, STATE);
        gives("ADD has room", code(times(built(0), 0, 8, PUSH, INT_1), 0, ADD, 0, RETURN, 0), 0, 0, 2);
    }

    private static void stackIsEmpty() {
        for (int what = ADD; what <= DIV; what++) {
            fails("none for " + what, code(built(0), 0, what, 0), 0, 0, STATE);
            fails("one for " + what, code(built(0), 0, PUSH, INT_1, what, 0), 0, 0, STATE);
        }
        fails("RETURN of nothing", code(built(0), 0, RETURN, 0), 0, 0, STATE);
        fails("THROW of nothing", code(built(0), 0, THROW, 0), 0, 0, STATE);
        fails("THROW", code(built(0), 0, PUSH, INT_0, THROW, 0), 0, 0, THROWN);
        ShakenTree called = code(built(0, 0), 0, CALL, methodAt(1), RETURN, 0);
        fails("THROW in a CALL", code(called, 1, PUSH, INT_0, THROW, 0), 0, 0, THROWN);
        ShakenTree two = code(built(0, 2), 0, PUSH, INT_1, CALL, methodAt(1), RETURN, 0);
        fails("CALL pops before it begins", code(two, 1, PUSH, INT_1, THROW, 0), 0, 0, STATE);
        ShakenTree one = code(built(0, 1), 0, CALL, methodAt(1), RETURN, 0);
        fails("CALL with one pops", code(one, 1, PUSH, INT_1, THROW, 0), 0, 0, STATE);
    }

    private static void noNextInstruction() {
        fails("no instruction", built(0), 0, 0, STATE);
        fails("none behind", code(built(0), 0, PUSH, INT_1), 0, 0, STATE);
        fails("none behind in a CALL", code(built(0, 0), 0, CALL, methodAt(1), RETURN, 0), 0, 0, STATE);
        ShakenTree last = code(built(1), 0, ARG, 0, ZERO, 0);
        fails("none behind ZERO", last, 1, 0, STATE);
    }

    /** Calls itself with one less until 0, then ends as told. */
    private static ShakenTree downTo(int end) {
        return code(built(1), 0, ARG, 0, ZERO, 7, ARG, 0, PUSH, INT_1, SUB, 0, CALL, methodAt(0), RETURN, 0,
                PUSH, INT_1, end, 0);
    }

    private static void openMethods() {
        gives("eight are open", downTo(RETURN), 7, 0, 1);
        fails("a ninth", downTo(RETURN), 8, 0, STATE);
        fails("the eighth throws", downTo(THROW), 7, 0, THROWN);
        fails("the ninth would", downTo(THROW), 8, 0, STATE);
    }

    private static void openMethodsMayEnd() {
        ShakenTree t = built(0, 0);
        for (int k = 0; k < 9; k++) {
            code(t, 0, CALL, methodAt(1), PUT, FIELD);
        }
        code(t, 0, GET, FIELD, RETURN, 0);
        gives("nine one after another", code(t, 1, GET, FIELD, PUSH, INT_1, ADD, 0, RETURN, 0), 0, 0, 9);
    }

    /** Method m counts its argument down: 6 + 7 * x + gos instructions, the last one being the end told. */
    private static ShakenTree loop(ShakenTree t, int m, int gos, int end) {
        code(t, m, ARG, 0, PUT, FIELD);
        code(t, m, GET, FIELD, ZERO, 9, GET, FIELD, PUSH, INT_1, SUB, 0, PUT, FIELD, GO, 2);
        for (int k = 0; k < gos; k++) {
            code(t, m, GO, 10 + k);
        }
        return code(t, m, PUSH, INT_1, end, 0);
    }

    private static void steps() {
        gives("400 instructions", loop(built(1), 0, 2, RETURN), 56, 0, 1);
        fails("401 instructions", loop(built(1), 0, 3, RETURN), 56, 0, STATE);
        fails("the 400th throws", loop(built(1), 0, 2, THROW), 56, 0, THROWN);
        fails("the 401st would", loop(built(1), 0, 3, THROW), 56, 0, STATE);
        fails("no end", code(built(0), 0, GO, 0), 0, 0, STATE);
    }

    private static void stepsOfAllMethods() {
        ShakenTree enough = code(built(1, 1), 0, ARG, 0, CALL, methodAt(1), RETURN, 0);
        gives("400 of two methods", loop(enough, 1, 6, RETURN), 55, 0, 1);
        ShakenTree more = code(built(1, 1), 0, ARG, 0, CALL, methodAt(1), RETURN, 0);
        fails("401 of two methods", loop(more, 1, 7, RETURN), 55, 0, STATE);
    }

    private static ShakenTree fullCaller(int arguments) {
        return code(times(built(0, arguments), 0, 8, PUSH, INT_1), 0, CALL, methodAt(1), RETURN, 0);
    }

    private static void callPushesLast() {
        fails("no room for a result", code(fullCaller(0), 1, PUSH, INT_1, RETURN, 0), 0, 0, STATE);
        fails("the method throws before", code(fullCaller(0), 1, PUSH, INT_1, THROW, 0), 0, 0, THROWN);
        fails("it divides before", code(fullCaller(0), 1, PUSH, INT_0, PUSH, INT_0, DIV, 0), 0, 0, ARITHMETIC);
        gives("an argument makes room", code(fullCaller(1), 1, PUSH, INT_0, RETURN, 0), 0, 0, 0);
    }

    private static void ownStacks() {
        ShakenTree t = code(times(built(0, 0), 0, 7, PUSH, INT_1), 0, CALL, methodAt(1), RETURN, 0);
        gives("each has room for eight", code(times(t, 1, 8, PUSH, INT_0), 1, RETURN, 0), 0, 0, 0);
        ShakenTree other = code(times(built(0, 0), 0, 7, PUSH, INT_1), 0, CALL, methodAt(1), RETURN, 0);
        fails("the caller's is not its own", code(other, 1, RETURN, 0), 0, 0, STATE);
        ShakenTree again = code(built(0, 0), 0, CALL, methodAt(1), CALL, methodAt(1), ADD, 0, RETURN, 0);
        gives("it is empty each time", code(times(again, 1, 8, PUSH, INT_1), 1, RETURN, 0), 0, 0, 2);
    }

    private static void noSuchMethod() {
        ShakenTree t = code(built(0), 0, PUSH, INT_1, RETURN, 0);
        t.entry(0, true);
        t.shake();
        t.code(0, GO, 99);
        Check.argument("not closed", () -> t.run(false, 0, 0, 0));
        Check.due("the shaken one is closed", 1, t.run(true, 0, 0, 0));
        for (boolean shaken : new boolean[] {false, true}) {
            Check.index("run of a field, or of none", () -> t.run(shaken, 1, 0, 0));
            Check.index("run of 2", () -> t.run(shaken, 2, 0, 0));
            Check.index("run of -1", () -> t.run(shaken, -1, 0, 0));
        }
    }
}
