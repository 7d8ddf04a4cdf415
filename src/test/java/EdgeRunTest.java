/**
 * The boundary cases of runs, promise 16 and 'A RUN' in the terms, sentence by sentence; each run is made in the whole
 * program and in the shaken one, and each that throws leaves all as it was.
 */
public final class EdgeRunTest {
    private static final int LEAST = Integer.MIN_VALUE;
    private static final int MOST = Integer.MAX_VALUE;

    private static final int PUSH = 0;
    private static final int GET = 1;
    private static final int PUT = 2;
    private static final int CALL = 3;
    private static final int ARG = 4;
    private static final int ADD = 5;
    private static final int SUB = 6;
    private static final int MUL = 7;
    private static final int DIV = 8;
    private static final int ZERO = 9;
    private static final int GO = 10;
    private static final int RETURN = 11;
    private static final int THROW = 12;

    /** Places in the pool that built() makes. */
    private static final int INT_0 = 0;
    private static final int INT_1 = 1;
    private static final int FIELD = 4;
    private static final int INT_LEAST = 5;
    private static final int INT_MOST = 6;

    private static final Class<IllegalStateException> STATE = IllegalStateException.class;
    private static final Class<ArithmeticException> ARITHMETIC = ArithmeticException.class;
    private static final Class<UnsupportedOperationException> THROWN = UnsupportedOperationException.class;

    public static void main(String[] args) {
        noSuchMethod();
        notClosed();
        orderOfExceptions();
        argumentsOfARun();
        argumentsOfACall();
        pushedNumbers();
        fieldsBeginAt0();
        meanings();
        additions();
        divisions();
        divisionBy0();
        throwing();
        poppedFromEmpty();
        poppedFromJustEnough();
        pushedOnFull();
        roomAfterPops();
        stacksOfTheirOwn();
        callPopsFirst();
        callPushesLast();
        zeroOrNot();
        jumpsToEnds();
        noNextInstruction();
        returnEnds();
        eightMethods();
        eightDifferentMethods();
        endedMethods();
        fourHundred();
        fourHundredOfAll();
        runsLeaveNothing();
        all512Calls();
        Check.finish();
    }

    /**
     * One class with methods 0 .. that have these arguments, each an entry; behind them a method that answers
     * the field's value, which looks tell to be 0 before every run, and the field.
     */
    private static Story built(int... arguments) {
        Story story = new Story().add().number(0, 0).number(0, 1).classAt(0, 0).name(0, 9).field(0, 2, 3)
                .number(0, LEAST).number(0, MOST);
        for (int m = 0; m < arguments.length; m++) {
            story = story.name(0, 50 + m).method(0, 2, 7 + 2 * m).member(0, 7 + 2 * m, arguments[m]).entry(m, true);
        }
        int last = arguments.length;
        return story.name(0, 8).member(0, 7 + 2 * last, 0).code(last, GET, FIELD, RETURN, 0).member(0, 3, -1).entry(last, true);
    }

    /** The place of the METHOD that means method m of built(). */
    private static int methodAt(int m) {
        return 8 + 2 * m;
    }

    private static void gives(String run, Story story, int x, int y, int want) {
        Check.due(run + " whole", want, story.told().run(false, 0, x, y));
        Check.due(run + " shaken", want, story.shake().told().run(true, 0, x, y));
        Check.same(run + " changes nothing", story.shake(), story.shake().then(t -> t.run(false, 0, x, y)).then(t -> t.run(true, 0, x, y)));
    }

    private static void fails(String run, Story story, int x, int y, Class<? extends RuntimeException> want) {
        Check.refused(run + " whole", want, story, t -> t.run(false, 0, x, y));
        Check.refused(run + " shaken", want, story.shake(), t -> t.run(true, 0, x, y));
    }

    private static void noSuchMethod() {
        Check.sentence("Promise 16", "IndexOutOfBoundsException when there is no such method");
        Story story = built(0).code(0, PUSH, INT_1, RETURN, 0);
        for (int m : new int[] {LEAST, -1, 2, 3, 4, 29, 30, MOST}) {
            Check.noIndex("run of " + m, story.shake(), t -> t.run(false, m, 0, 0));
            Check.noIndex("run of " + m + " shaken", story.shake(), t -> t.run(true, m, 0, 0));
        }
        Check.due("the first method", 1, story.told().run(false, 0, 0, 0));
        Check.due("the last method", 0, story.told().run(false, 1, 0, 0));
        Check.noIndex("nothing was shaken", story, t -> t.run(true, 0, 0, 0));
        Check.noIndex("nothing was built", new Story(), t -> t.run(false, 0, 0, 0));
        Story one = story.entry(0, false).shake();
        Check.noIndex("a method that was not kept", one, t -> t.run(true, 2, 0, 0));
        Check.due("the kept one", 0, one.told().run(true, 0, 0, 0));
        Check.noIndex("the field behind it", one, t -> t.run(true, 1, 0, 0));
    }

    private static void notClosed() {
        Check.sentence("Promise 16", "IllegalArgumentException when it is the whole program and not closed");
        Story story = built(0, 0).code(0, PUSH, INT_1, RETURN, 0).shake();
        Story other = story.code(1, GO, 1);
        Check.noArgument("a fault in another method", other, t -> t.run(false, 0, 0, 0));
        Check.noArgument("a fault in the method", story.code(0, PUSH, 3), t -> t.run(false, 0, 0, 0));
        Check.noArgument("a fault in the last method", story.code(2, ARG, 0), t -> t.run(false, 0, 0, 0));
        Check.due("no fault any more", 1, other.code(1, GO, 0).told().run(false, 0, 0, 0));
        Check.due("the shaken one runs all the same", 1, other.told().run(true, 0, 0, 0));
        Check.due("and when the whole one is empty", 1, other.clear().told().run(true, 0, 0, 0));
        Check.due("no entry is needed", 1, story.entry(0, false).entry(1, false).entry(2, false).told().run(false, 0, 0, 0));
    }

    private static void orderOfExceptions() {
        Check.sentence("Terms", "where several exceptions that a call names fit, the one named first is thrown (run)");
        Story open = built(0, 0).code(1, GO, 1);
        for (int m : new int[] {-1, 3, 4, 30}) {
            Check.noIndex("no method " + m + " and not closed", open, t -> t.run(false, m, 0, 0));
        }
        Check.noArgument("not closed and no instruction", open, t -> t.run(false, 0, 0, 0));
        Check.noArgument("not closed and a division by 0", open.code(0, PUSH, INT_0, PUSH, INT_0, DIV, 0), t -> t.run(false, 0, 0, 0));
        Check.noArgument("not closed and a THROW", open.code(0, PUSH, INT_0, THROW, 0), t -> t.run(false, 0, 0, 0));
        Check.noArgument("not closed and an empty stack", open.code(0, RETURN, 0), t -> t.run(false, 0, 0, 0));
    }

    private static void argumentsOfARun() {
        Check.sentence("Promise 16", "with the first of x and y, both or none as its arguments");
        for (int x : new int[] {LEAST, -1, 0, 1, MOST}) {
            for (int y : new int[] {MOST, 0, LEAST}) {
                gives("none", built(0).code(0, PUSH, INT_1, RETURN, 0), x, y, 1);
                gives("the first of one", built(1).code(0, ARG, 0, RETURN, 0), x, y, x);
                gives("the first of both", built(2).code(0, ARG, 0, RETURN, 0), x, y, x);
                gives("the second of both", built(2).code(0, ARG, 1, RETURN, 0), x, y, y);
            }
        }
        fails("arguments are not on the stack", built(2).code(0, RETURN, 0), 3, 4, STATE);
    }

    private static void argumentsOfACall() {
        Check.sentence("Terms", "CALL p (.. as many as it has arguments are popped, the last one first, and its result is pushed)");
        gives("two", built(2, 2).code(0, ARG, 0, ARG, 1, CALL, methodAt(1), RETURN, 0)
                .code(1, ARG, 0, ARG, 1, SUB, 0, RETURN, 0), 9, 4, 5);
        gives("the second of two", built(2, 2).code(0, ARG, 0, ARG, 1, CALL, methodAt(1), RETURN, 0)
                .code(1, ARG, 1, RETURN, 0), 9, 4, 4);
        gives("one", built(2, 1).code(0, ARG, 0, ARG, 1, CALL, methodAt(1), SUB, 0, RETURN, 0)
                .code(1, ARG, 0, ARG, 0, MUL, 0, RETURN, 0), 30, 4, 14);
        gives("none", built(2, 0).code(0, ARG, 0, CALL, methodAt(1), SUB, 0, RETURN, 0)
                .code(1, PUSH, INT_1, RETURN, 0), 30, 4, 29);
        gives("its own ones stay", built(1, 1).code(0, PUSH, INT_1, CALL, methodAt(1), ARG, 0, SUB, 0, RETURN, 0)
                .code(1, ARG, 0, RETURN, 0), 30, 0, -29);
        gives("a called one's own ones", built(2, 2).code(0, ARG, 1, ARG, 0, CALL, methodAt(1), RETURN, 0)
                .code(1, ARG, 0, RETURN, 0), 30, 4, 4);
    }

    private static void pushedNumbers() {
        Check.sentence("Terms", "PUSH p (the n of the INT at p in the pool of the method's class)");
        int[] places = {INT_0, INT_1, INT_LEAST, INT_MOST};
        int[] due = {0, 1, LEAST, MOST};
        for (int k = 0; k < places.length; k++) {
            gives("PUSH", built(0).code(0, PUSH, places[k], RETURN, 0), 0, 0, due[k]);
        }
        Story two = new Story().adds(2).classAt(0, 1).name(0, 5).number(0, 10).name(0, 6).method(0, 0, 3).member(0, 1, 0)
                .number(1, 20).name(1, 6).number(1, 30).member(1, 1, 0)
                .code(0, PUSH, 2, CALL, 4, SUB, 0, RETURN, 0).code(1, PUSH, 2, RETURN, 0).entry(0, true);
        gives("the same place in two pools", two, 0, 0, -20);
    }

    private static void fieldsBeginAt0() {
        Check.sentence("Terms", "A RUN .. begins with all fields 0.");
        Story counts = built(1).code(0, GET, FIELD, ARG, 0, ADD, 0, PUT, FIELD, GET, FIELD, RETURN, 0);
        gives("a field", counts, 5, 0, 5);
        ShakenTree t = counts.shake().told();
        for (int k = 1; k <= 5; k++) {
            Check.due("run " + k, k, t.run(false, 0, k, 0));
            Check.due("shaken run " + k, k, t.run(true, 0, k, 0));
            Check.due("seen by another run", 0, t.run(false, 1, 0, 0));
        }
        gives("set by a called one", built(0, 1).code(0, PUSH, INT_MOST, CALL, methodAt(1), GET, FIELD, ADD, 0, RETURN, 0)
                .code(1, ARG, 0, PUT, FIELD, PUSH, INT_1, RETURN, 0), 0, 0, LEAST);
        countsFrom0("field 29", Story.full().code(27, GET, 11, PUSH, 14, ADD, 0, PUT, 11, GET, 11, RETURN, 0), 27, 500);
        countsFrom0("field 28", Story.full().code(27, GET, 10, PUSH, 14, ADD, 0, PUT, 10, GET, 10, RETURN, 0), 27, 500);
        Story first = new Story().add().number(0, 4).classAt(0, 0).name(0, 7).field(0, 1, 2).member(0, 2, -1).member(0, 2, 0)
                .entry(1, true).code(1, GET, 3, PUSH, 0, ADD, 0, PUT, 3, GET, 3, RETURN, 0);
        countsFrom0("field 0", first, 1, 4);
    }

    /** A method that adds to a field answers the same in each run. */
    private static void countsFrom0(String which, Story story, int method, int due) {
        ShakenTree t = story.shake().told();
        for (int k = 0; k < 3; k++) {
            Check.due(which + " run " + k, due, t.run(false, method, 0, 0));
            Check.due(which + " shaken run " + k, due, t.run(true, method, 0, 0));
        }
    }

    private static void meanings() {
        Check.sentence("Terms", "A FIELD or METHOD means the field or method of the class that its CLASS says with the name that its NAME says.");
        Story two = new Story().adds(2).number(0, 10).number(0, 3).classAt(0, 0).classAt(0, 1).name(0, 7).name(0, 8).name(0, 7).name(0, 5)
                .field(0, 2, 4).field(0, 3, 4).field(0, 3, 5).field(0, 2, 6).method(0, 2, 4).method(0, 3, 4)
                .number(1, 20).name(1, 8).name(1, 7)
                .member(0, 7, 0).member(0, 4, -1).member(0, 4, 0).member(1, 1, -1).member(1, 2, 0).member(1, 2, -1)
                .code(2, PUSH, 1, RETURN, 0).code(4, PUSH, 0, RETURN, 0).entry(0, true);
        Story set = two.code(0, PUSH, 0, PUT, 8, PUSH, 1, PUT, 9);
        gives("one name in two classes", set.code(0, GET, 8, GET, 9, SUB, 0, RETURN, 0), 0, 0, 7);
        gives("another name in one class", set.code(0, GET, 9, GET, 10, SUB, 0, RETURN, 0), 0, 0, 3);
        gives("two FIELDs that mean one field", set.code(0, GET, 11, GET, 8, SUB, 0, RETURN, 0), 0, 0, 0);
        gives("a method with a field's name", two.code(0, CALL, 12, RETURN, 0), 0, 0, 3);
        gives("a method of that name in the other class", two.code(0, CALL, 13, RETURN, 0), 0, 0, 20);
    }

    private static Story operation(int what) {
        return built(2).code(0, ARG, 0, ARG, 1, what, 0, RETURN, 0);
    }

    private static void additions() {
        Check.sentence("Terms", "b is popped, then a; a + b, a - b, a * b, wrapping");
        int[][] pairs = {{MOST, 1}, {LEAST, -1}, {LEAST, LEAST}, {MOST, MOST}, {0, LEAST}, {LEAST, 1}, {1, MOST},
            {65536, 65536}, {46341, 46341}, {-1, LEAST}, {7, 3}, {3, 7}, {0, 0}};
        for (int[] p : pairs) {
            gives("ADD", operation(ADD), p[0], p[1], p[0] + p[1]);
            gives("SUB", operation(SUB), p[0], p[1], p[0] - p[1]);
            gives("MUL", operation(MUL), p[0], p[1], p[0] * p[1]);
        }
    }

    private static void divisions() {
        Check.sentence("Terms", "or a / b cut off towards 0, is pushed");
        int[][] rows = {{7, 2, 3}, {-7, 2, -3}, {7, -2, -3}, {-7, -2, 3}, {1, 2, 0}, {-1, 2, 0}, {0, 1, 0}, {0, -1, 0},
            {5, 1, 5}, {5, -1, -5}, {MOST, MOST, 1}, {LEAST, 1, LEAST}, {LEAST, -1, LEAST}, {LEAST, LEAST, 1},
            {MOST, LEAST, 0}, {LEAST, MOST, -1}, {2, 7, 0}};
        for (int[] r : rows) {
            gives("DIV", operation(DIV), r[0], r[1], r[2]);
        }
    }

    private static void divisionBy0() {
        Check.sentence("Terms", "ArithmeticException when DIV has b = 0, both being popped");
        for (int a : new int[] {LEAST, -1, 0, 1, MOST}) {
            fails("by 0", operation(DIV), a, 0, ARITHMETIC);
            gives("by 1", operation(DIV), a, 1, a);
        }
        fails("b = 0 without a", built(0).code(0, PUSH, INT_0, DIV, 0), 0, 0, STATE);
        fails("b = 1 without a", built(0).code(0, PUSH, INT_1, DIV, 0), 0, 0, STATE);
        fails("neither", built(0).code(0, DIV, 0), 0, 0, STATE);
        fails("in a called one", built(0, 0).code(0, CALL, methodAt(1), RETURN, 0)
                .code(1, PUSH, INT_1, PUSH, INT_0, DIV, 0, RETURN, 0), 0, 0, ARITHMETIC);
        fails("a field was set", built(0).code(0, PUSH, INT_1, PUT, FIELD, PUSH, INT_1, PUSH, INT_0, DIV, 0), 0, 0, ARITHMETIC);
        fails("on a full stack", built(0).codes(0, 8, PUSH, INT_0).code(0, DIV, 0), 0, 0, ARITHMETIC);
    }

    private static void throwing() {
        Check.sentence("Terms", "UnsupportedOperationException by THROW, when it has popped");
        for (int x : new int[] {LEAST, 0, 1, MOST}) {
            fails("of " + x, built(1).code(0, ARG, 0, THROW, 0), x, 0, THROWN);
        }
        fails("of nothing", built(0).code(0, THROW, 0), 0, 0, STATE);
        fails("of what was popped before", built(0).code(0, PUSH, INT_1, PUT, FIELD, THROW, 0), 0, 0, STATE);
        fails("a field was set", built(0).code(0, PUSH, INT_1, PUSH, INT_1, PUT, FIELD, THROW, 0), 0, 0, THROWN);
        fails("in a called one", built(0, 0).code(0, CALL, methodAt(1), RETURN, 0).code(1, PUSH, INT_0, THROW, 0), 0, 0, THROWN);
        fails("of nothing in a called one", built(0, 0).code(0, PUSH, INT_0, CALL, methodAt(1), RETURN, 0).code(1, THROW, 0), 0, 0, STATE);
    }

    private static void poppedFromEmpty() {
        Check.sentence("Terms", "IllegalStateException when something is to be popped from an empty stack");
        for (int what = ADD; what <= DIV; what++) {
            fails("none for " + what, built(0).code(0, what, 0, RETURN, 0), 0, 0, STATE);
            fails("one for " + what, built(0).code(0, PUSH, INT_1, what, 0, RETURN, 0), 0, 0, STATE);
        }
        fails("PUT", built(0).code(0, PUT, FIELD, PUSH, INT_1, RETURN, 0), 0, 0, STATE);
        fails("ZERO", built(0).code(0, ZERO, 1, PUSH, INT_1, RETURN, 0), 0, 0, STATE);
        fails("RETURN", built(0).code(0, RETURN, 0), 0, 0, STATE);
        fails("THROW", built(0).code(0, THROW, 0), 0, 0, STATE);
        fails("CALL with one", built(0, 1).code(0, CALL, methodAt(1), RETURN, 0).code(1, PUSH, INT_1, THROW, 0), 0, 0, STATE);
        fails("CALL with two", built(0, 2).code(0, CALL, methodAt(1), RETURN, 0).code(1, PUSH, INT_1, THROW, 0), 0, 0, STATE);
        fails("CALL with two of one", built(0, 2).code(0, PUSH, INT_1, CALL, methodAt(1), RETURN, 0)
                .code(1, PUSH, INT_1, THROW, 0), 0, 0, STATE);
    }

    private static void poppedFromJustEnough() {
        Check.sentence("Terms", "IllegalStateException when something is to be popped from an empty stack (and not before)");
        gives("two for ADD", built(0).code(0, PUSH, INT_1, PUSH, INT_1, ADD, 0, RETURN, 0), 0, 0, 2);
        gives("two for SUB", built(0).code(0, PUSH, INT_1, PUSH, INT_1, SUB, 0, RETURN, 0), 0, 0, 0);
        gives("two for MUL", built(0).code(0, PUSH, INT_1, PUSH, INT_1, MUL, 0, RETURN, 0), 0, 0, 1);
        gives("two for DIV", built(0).code(0, PUSH, INT_1, PUSH, INT_1, DIV, 0, RETURN, 0), 0, 0, 1);
        gives("one for PUT", built(0).code(0, PUSH, INT_1, PUT, FIELD, GET, FIELD, RETURN, 0), 0, 0, 1);
        gives("one for ZERO", built(0).code(0, PUSH, INT_1, ZERO, 0, PUSH, INT_1, RETURN, 0), 0, 0, 1);
        gives("one for RETURN", built(0).code(0, PUSH, INT_1, RETURN, 0), 0, 0, 1);
        gives("one for CALL", built(0, 1).code(0, PUSH, INT_1, CALL, methodAt(1), RETURN, 0).code(1, ARG, 0, RETURN, 0), 0, 0, 1);
        gives("two for CALL", built(0, 2).code(0, PUSH, INT_0, PUSH, INT_1, CALL, methodAt(1), RETURN, 0)
                .code(1, ARG, 1, RETURN, 0), 0, 0, 1);
        gives("none for CALL", built(0, 0).code(0, CALL, methodAt(1), RETURN, 0).code(1, PUSH, INT_1, RETURN, 0), 0, 0, 1);
    }

    private static void pushedOnFull() {
        Check.sentence("Terms", "a STACK of ints .. with room for 8 / IllegalStateException when something is .. pushed on a full one");
        Story seven = built(1, 0).code(1, PUSH, INT_1, RETURN, 0).codes(0, 7, PUSH, INT_0);
        Story eight = seven.code(0, PUSH, INT_0);
        int[][] pushes = {{PUSH, INT_1, 1}, {GET, FIELD, 0}, {ARG, 0, 6}, {CALL, methodAt(1), 1}};
        for (int[] p : pushes) {
            gives("an eighth by " + p[0], seven.code(0, p[0], p[1], RETURN, 0), 6, 0, p[2]);
            fails("a ninth by " + p[0], eight.code(0, p[0], p[1], RETURN, 0), 6, 0, STATE);
        }
        gives("eight", eight.code(0, RETURN, 0), 0, 0, 0);
    }

    private static void roomAfterPops() {
        Check.sentence("Terms", "with room for 8 (there is room again for each that was popped)");
        Story eight = built(0).codes(0, 8, PUSH, INT_1);
        for (int what : new int[] {ADD, SUB, MUL, DIV}) {
            gives("one behind " + what, eight.code(0, what, 0, PUSH, INT_MOST, RETURN, 0), 0, 0, MOST);
            fails("two behind " + what, eight.code(0, what, 0, PUSH, INT_1, PUSH, INT_1, RETURN, 0), 0, 0, STATE);
        }
        gives("one behind PUT", eight.code(0, PUT, FIELD, PUSH, INT_MOST, RETURN, 0), 0, 0, MOST);
        fails("two behind PUT", eight.code(0, PUT, FIELD, PUSH, INT_1, PUSH, INT_1, RETURN, 0), 0, 0, STATE);
        gives("one behind ZERO", eight.code(0, ZERO, 0, PUSH, INT_MOST, RETURN, 0), 0, 0, MOST);
        fails("two behind ZERO", eight.code(0, ZERO, 0, PUSH, INT_1, PUSH, INT_1, RETURN, 0), 0, 0, STATE);
        fails("one behind GO", eight.code(0, GO, 9, PUSH, INT_1, RETURN, 0), 0, 0, STATE);
        gives("all eight are there", eight.codes(0, 7, ADD, 0).code(0, RETURN, 0), 0, 0, 8);
        fails("a ninth is not", eight.codes(0, 8, ADD, 0).code(0, RETURN, 0), 0, 0, STATE);
    }

    private static void stacksOfTheirOwn() {
        Check.sentence("Terms", "INSTRUCTIONS work on a STACK of ints of the method's own, empty at first");
        Story caller = built(0, 0).codes(0, 7, PUSH, INT_1).code(0, CALL, methodAt(1), RETURN, 0);
        gives("eight in the called one", caller.codes(1, 8, PUSH, INT_0).code(1, RETURN, 0), 0, 0, 0);
        fails("nine in the called one", caller.codes(1, 9, PUSH, INT_0).code(1, RETURN, 0), 0, 0, STATE);
        fails("the caller's is not the called one's", caller.code(1, RETURN, 0), 0, 0, STATE);
        fails("the called one's is not the caller's", built(0, 0).code(0, CALL, methodAt(1), PUT, FIELD, RETURN, 0)
                .code(1, PUSH, INT_1, PUSH, INT_1, RETURN, 0), 0, 0, STATE);
        fails("nothing is left for the next run of it", built(0, 1)
                .code(0, PUSH, INT_0, CALL, methodAt(1), CALL, methodAt(1), RETURN, 0)
                .code(1, ARG, 0, ZERO, 3, RETURN, 0, PUSH, INT_1, PUSH, INT_1, RETURN, 0), 0, 0, STATE);
        gives("empty each time", built(0, 0).code(0, CALL, methodAt(1), CALL, methodAt(1), ADD, 0, RETURN, 0)
                .codes(1, 8, PUSH, INT_1).code(1, RETURN, 0), 0, 0, 2);
    }

    private static void callPopsFirst() {
        Check.sentence("Terms", "a CALL pops before the method begins");
        fails("one is missing", built(0, 1).code(0, CALL, methodAt(1), RETURN, 0).code(1, PUSH, INT_1, THROW, 0), 0, 0, STATE);
        fails("the second is missing", built(0, 2).code(0, PUSH, INT_1, CALL, methodAt(1), RETURN, 0)
                .code(1, PUSH, INT_0, PUSH, INT_0, DIV, 0), 0, 0, STATE);
        Story full = built(0, 1, 2).codes(0, 8, PUSH, INT_1);
        gives("one of eight makes room for the result", full.code(0, CALL, methodAt(1), RETURN, 0).code(1, PUSH, INT_0, RETURN, 0), 0, 0, 0);
        gives("two of eight make room for two", full.code(0, CALL, methodAt(2), PUSH, INT_MOST, RETURN, 0)
                .code(2, PUSH, INT_0, RETURN, 0), 0, 0, MOST);
        fails("but not for three", full.code(0, CALL, methodAt(2), PUSH, INT_1, PUSH, INT_1, RETURN, 0)
                .code(2, PUSH, INT_0, RETURN, 0), 0, 0, STATE);
    }

    private static void callPushesLast() {
        Check.sentence("Terms", "and pushes when it has ended");
        Story full = built(0, 0).codes(0, 8, PUSH, INT_1).code(0, CALL, methodAt(1), RETURN, 0);
        fails("no room for the result", full.code(1, PUSH, INT_1, RETURN, 0), 0, 0, STATE);
        fails("it throws before", full.code(1, PUSH, INT_1, THROW, 0), 0, 0, THROWN);
        fails("it divides by 0 before", full.code(1, PUSH, INT_1, PUSH, INT_0, DIV, 0), 0, 0, ARITHMETIC);
    }

    private static void zeroOrNot() {
        Check.sentence("Terms", "ZERO t (one is popped; if it is 0 the next instruction is t)");
        Story story = built(1).code(0, ARG, 0, ZERO, 4, PUSH, INT_0, RETURN, 0, PUSH, INT_1, RETURN, 0);
        gives("0", story, 0, 0, 1);
        for (int x : new int[] {LEAST, -1, 1, 256, 65536, MOST}) {
            gives("not 0: " + x, story, x, 0, 0);
        }
        gives("one alone is popped", built(0).code(0, PUSH, INT_1, PUSH, INT_0, ZERO, 3, RETURN, 0), 0, 0, 1);
        fails("it is gone", built(0).code(0, PUSH, INT_0, ZERO, 2, RETURN, 0), 0, 0, STATE);
        fails("it is gone when it was not 0", built(0).code(0, PUSH, INT_1, ZERO, 2, RETURN, 0), 0, 0, STATE);
    }

    private static void jumpsToEnds() {
        Check.sentence("Terms", "GO t (the next one is t), ZERO t: the first, the last and itself");
        Story last = built(0).code(0, PUSH, INT_1, GO, 19).codes(0, 17, THROW, 0).code(0, RETURN, 0);
        gives("GO to the last of 20", last, 0, 0, 1);
        Story zero = built(0).code(0, PUSH, INT_1, PUSH, INT_0, ZERO, 19).codes(0, 16, THROW, 0).code(0, RETURN, 0);
        gives("ZERO to the last of 20", zero, 0, 0, 1);
        Story first = built(0).code(0, GET, FIELD, ZERO, 4, PUSH, INT_MOST, RETURN, 0, PUSH, INT_1, PUT, FIELD);
        gives("GO to the first", first.code(0, GO, 0), 0, 0, MOST);
        gives("ZERO to the first", first.code(0, PUSH, INT_0, ZERO, 0), 0, 0, MOST);
        fails("GO to itself", built(0).code(0, GO, 0), 0, 0, STATE);
        fails("ZERO to itself", built(0).code(0, PUSH, INT_0, PUSH, INT_0, ZERO, 2, RETURN, 0), 0, 0, STATE);
    }

    private static void noNextInstruction() {
        Check.sentence("Terms", "IllegalStateException .. when there is no next instruction");
        fails("none at all", built(0), 0, 0, STATE);
        fails("none behind PUSH", built(0).code(0, PUSH, INT_1), 0, 0, STATE);
        fails("none behind PUT", built(0).code(0, PUSH, INT_1, PUT, FIELD), 0, 0, STATE);
        fails("none behind ADD", built(0).code(0, PUSH, INT_1, PUSH, INT_1, ADD, 0), 0, 0, STATE);
        fails("none behind CALL", built(0, 0).code(0, CALL, methodAt(1)).code(1, PUSH, INT_1, RETURN, 0), 0, 0, STATE);
        fails("none behind ZERO", built(0).code(0, PUSH, INT_1, ZERO, 0), 0, 0, STATE);
        fails("none in a called one", built(0, 0).code(0, CALL, methodAt(1), RETURN, 0), 0, 0, STATE);
        fails("none behind in a called one", built(0, 0).code(0, CALL, methodAt(1), RETURN, 0).code(1, PUSH, INT_1), 0, 0, STATE);
        Story nineteen = built(0).code(0, PUSH, INT_1);
        for (int k = 0; k < 9; k++) {
            nineteen = nineteen.code(0, PUSH, INT_0, ADD, 0);
        }
        gives("a 20th", nineteen.code(0, RETURN, 0), 0, 0, 1);
        fails("no 21st", nineteen.code(0, GET, FIELD), 0, 0, STATE);
        fails("no 20th", nineteen, 0, 0, STATE);
    }

    private static void returnEnds() {
        Check.sentence("Terms", "RETURN (one is popped: the result); It ends with the method's result");
        gives("the top", built(2).code(0, ARG, 0, ARG, 1, RETURN, 0), 3, 4, 4);
        gives("nothing behind it is done", built(1).code(0, ARG, 0, RETURN, 0, PUSH, INT_1, THROW, 0), 3, 0, 3);
        gives("the caller goes on behind CALL", built(0, 0).code(0, CALL, methodAt(1), PUSH, INT_1, ADD, 0, RETURN, 0)
                .code(1, PUSH, INT_MOST, RETURN, 0, THROW, 0), 0, 0, LEAST);
        for (int x : new int[] {LEAST, -1, 0, MOST}) {
            gives("any number: " + x, built(1).code(0, ARG, 0, RETURN, 0), x, 0, x);
        }
    }

    /** Calls itself with one less until 0, and then ends as told. */
    private static Story downTo(int end) {
        return built(1).code(0, ARG, 0, ZERO, 7, ARG, 0, PUSH, INT_1, SUB, 0, CALL, methodAt(0), RETURN, 0, PUSH, INT_1, end, 0);
    }

    private static void eightMethods() {
        Check.sentence("Terms", "when a ninth method would be begun before another one ended (the first one counts)");
        gives("one", downTo(RETURN), 0, 0, 1);
        gives("seven", downTo(RETURN), 6, 0, 1);
        gives("eight", downTo(RETURN), 7, 0, 1);
        fails("nine", downTo(RETURN), 8, 0, STATE);
        fails("without end", downTo(RETURN), -1, 0, STATE);
        fails("the eighth throws", downTo(THROW), 7, 0, THROWN);
        fails("the ninth would throw", downTo(THROW), 8, 0, STATE);
        fails("for ever", built(0).code(0, CALL, methodAt(0), RETURN, 0), 0, 0, STATE);
    }

    /** Nine methods, each of which calls the next one; the last one throws. */
    private static Story tower() {
        Story story = new Story().add().number(0, 3).classAt(0, 0).names(0, 30, 9);
        for (int m = 1; m < 9; m++) {
            story = story.method(0, 1, 2 + m);
        }
        for (int m = 0; m < 9; m++) {
            story = story.member(0, 2 + m, 0);
        }
        for (int m = 0; m < 8; m++) {
            story = story.code(m, CALL, 11 + m, RETURN, 0);
        }
        return story.code(8, PUSH, 0, THROW, 0).entry(0, true).shake();
    }

    private static void eightDifferentMethods() {
        Check.sentence("Terms", "a ninth method (nine that differ)");
        for (boolean shaken : new boolean[] {false, true}) {
            Check.refused("nine", STATE, tower(), t -> t.run(shaken, 0, 0, 0));
            for (int m = 1; m < 9; m++) {
                int first = m;
                Check.refused("from " + m + " on", THROWN, tower(), t -> t.run(shaken, first, 0, 0));
            }
        }
    }

    private static void endedMethods() {
        Check.sentence("Terms", "before another one ended (those that ended do not count)");
        Story many = built(0, 0);
        for (int k = 0; k < 9; k++) {
            many = many.code(0, CALL, methodAt(1), PUT, FIELD);
        }
        gives("nine one behind another", many.code(0, GET, FIELD, RETURN, 0)
                .code(1, GET, FIELD, PUSH, INT_1, ADD, 0, RETURN, 0), 0, 0, 9);
        Story deep = built(1, 0).code(0, ARG, 0, ZERO, 9, ARG, 0, PUSH, INT_1, SUB, 0, CALL, methodAt(0), CALL, methodAt(1), ADD, 0,
                RETURN, 0, CALL, methodAt(1), RETURN, 0).code(1, PUSH, INT_1, RETURN, 0);
        gives("an eighth one seven times", deep, 6, 0, 7);
        fails("a ninth one below eight", deep, 7, 0, STATE);
    }

    /** Counts x down in method m and ends as told: 6 + 7 * x + gos instructions, the last one being the end. */
    private static Story loop(Story story, int m, int gos, int end) {
        Story longer = story.code(m, ARG, 0, PUT, FIELD, GET, FIELD, ZERO, 9, GET, FIELD, PUSH, INT_1, SUB, 0, PUT, FIELD, GO, 2);
        for (int k = 0; k < gos; k++) {
            longer = longer.code(m, GO, 10 + k);
        }
        return longer.code(m, PUSH, INT_1, end, 0);
    }

    private static void fourHundred() {
        Check.sentence("Terms", "when there were 400 instructions (of all methods) and there would be one more");
        gives("399", loop(built(1), 0, 1, RETURN), 56, 0, 1);
        gives("400", loop(built(1), 0, 2, RETURN), 56, 0, 1);
        fails("401", loop(built(1), 0, 3, RETURN), 56, 0, STATE);
        fails("the 400th throws", loop(built(1), 0, 2, THROW), 56, 0, THROWN);
        fails("the 401st would throw", loop(built(1), 0, 3, THROW), 56, 0, STATE);
        fails("for ever", built(0).code(0, GO, 0), 0, 0, STATE);
        fails("the 400th divides by 0", dividing(1), 56, 0, ARITHMETIC);
        fails("the 401st would divide by 0", dividing(2), 56, 0, STATE);
    }

    /** As loop(), but its end is a division by 0, which is one instruction more. */
    private static Story dividing(int gos) {
        Story longer = built(1).code(0, ARG, 0, PUT, FIELD, GET, FIELD, ZERO, 9, GET, FIELD, PUSH, INT_1, SUB, 0, PUT, FIELD, GO, 2);
        for (int k = 0; k < gos; k++) {
            longer = longer.code(0, GO, 10 + k);
        }
        return longer.code(0, PUSH, INT_1, PUSH, INT_0, DIV, 0, RETURN, 0);
    }

    private static void fourHundredOfAll() {
        Check.sentence("Terms", "400 instructions (of all methods)");
        Story caller = built(1, 1).code(0, ARG, 0, CALL, methodAt(1), RETURN, 0);
        gives("400 of two methods", loop(caller, 1, 6, RETURN), 55, 0, 1);
        fails("401 of two methods", loop(caller, 1, 7, RETURN), 55, 0, STATE);
        fails("the 400th is the caller's", loop(built(1, 1).code(0, ARG, 0, CALL, methodAt(1), THROW, 0), 1, 6, RETURN), 55, 0, THROWN);
        fails("the 401st is the caller's", loop(built(1, 1).code(0, ARG, 0, CALL, methodAt(1), THROW, 0), 1, 7, RETURN), 55, 0, STATE);
        Story twice = built(1, 1).code(0, ARG, 0, CALL, methodAt(1), ARG, 0, CALL, methodAt(1), ADD, 0, RETURN, 0);
        gives("two loops of 197", loop(twice, 1, 2, RETURN), 27, 0, 2);
        fails("two loops of 204", loop(twice, 1, 2, RETURN), 28, 0, STATE);
    }

    private static void runsLeaveNothing() {
        Check.sentence("Terms", "A RUN .. begins with all fields 0 (and 400 instructions, eight methods and empty stacks before it)");
        Story story = loop(built(1), 0, 2, RETURN).shake();
        ShakenTree t = story.told();
        for (int k = 0; k < 20; k++) {
            Check.due("400 again", 1, t.run(k % 2 == 0, 0, 56, 0));
            Check.state("401 between", () -> t.run(false, 0, 57, 0));
        }
        ShakenTree deep = downTo(RETURN).shake().told();
        for (int k = 0; k < 20; k++) {
            Check.state("nine between", () -> deep.run(false, 0, 8, 0));
            Check.due("eight again", 1, deep.run(k % 2 == 0, 0, 7, 0));
        }
        Story full = built(1).codes(0, 7, PUSH, INT_0).code(0, ARG, 0, ZERO, 11, ARG, 0, RETURN, 0, ARG, 0, ARG, 0, THROW, 0);
        ShakenTree stacks = full.told();
        for (int k = 0; k < 20; k++) {
            Check.state("nine on the stack between", () -> stacks.run(false, 0, 0, 0));
            Check.due("eight again", 6, stacks.run(false, 0, 6, 0));
        }
    }

    private static void all512Calls() {
        Check.sentence("What it is", "An object is used for at most 512 calls after it has been made");
        Story story = loop(built(1), 0, 2, RETURN).shake();
        for (int last = 0; last < 4; last++) {
            ShakenTree t = story.told();
            for (int call = story.calls() + 1; call < Story.MOST_CALLS; call++) {
                int x = call % 3 == 0 ? 57 : 56;
                if (call % 2 == 0) {
                    Check.thrownBy(() -> t.run(true, 0, x, 0));
                } else {
                    Check.thrownBy(t::shake);
                }
            }
            switch (last) {
                case 0 -> Check.due("the 512th, a run", 1, t.run(true, 0, 56, 0));
                case 1 -> Check.due("the 512th, a shake", 3, t.shake());
                case 2 -> Check.state("the 512th, a run that throws", () -> t.run(false, 0, 57, 0));
                default -> Check.due("the 512th, a new class", 1, t.add());
            }
        }
    }
}
