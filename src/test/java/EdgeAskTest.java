/** The boundary cases of the questions, promises 8 and 10 to 15, sentence by sentence, on both sides of each boundary. */
public final class EdgeAskTest {
    private static final int LEAST = Integer.MIN_VALUE;
    private static final int MOST = Integer.MAX_VALUE;
    private static final boolean[] BOTH = {false, true};
    private static final Story FULL = Story.full();
    private static final Story FULL_SHAKEN = FULL.shake();

    /**
     * Class 0: field 0 and method 1 (one argument, the entry), both named 40; class 1: method 2 and field 3,
     * both named 41, and FIELDs and METHODs that mean each of the four, or none. Only method 1 and field 0 are kept.
     */
    private static final Story MIXED = new Story().adds(2).number(0, 5).name(0, 40).classAt(0, 0)
            .field(0, 2, 1).method(0, 2, 1).number(0, 6).member(0, 1, -1).member(0, 1, 1)
            .code(1, 4, 0, 2, 3, 1, 3, 11, 0).entry(1, true)
            .number(1, 7).name(1, 40).name(1, 41).classAt(1, 0).classAt(1, 1)
            .field(1, 3, 1).field(1, 3, 2).field(1, 4, 1).field(1, 4, 2)
            .method(1, 3, 1).method(1, 3, 2).method(1, 4, 1).method(1, 4, 2).number(1, 8)
            .member(1, 2, 2).member(1, 2, -1);
    private static final Story MIXED_SHAKEN = MIXED.shake();

    public static void main(String[] args) {
        closedWhenEmpty();
        firstAndLastFault();
        orderOfFaults();
        faultOfPush();
        faultOfGetAndPut();
        faultOfCall();
        meaningComesLater();
        faultOfArg();
        faultOfJumps();
        otherNumbers();
        faultOfTheWhole();
        countWhats();
        countOfNothing();
        countOfAll();
        poolOfNoClass();
        poolSizes();
        constantOfNoClass();
        constantOfNoPlace();
        constantWhats();
        constantWithoutSecond();
        memberThatIsNot();
        memberWhats();
        memberNumbers();
        codeOfNoMethod();
        codeOfNoInstruction();
        codeSums();
        movedOfNone();
        movedOfLeftOut();
        movedAsItWas();
        Check.finish();
    }

    private static void closedWhenEmpty() {
        Check.sentence("Promise 8", "NONE when it is closed (nothing is there that could keep it from that).");
        Check.due("nothing", -1, new Story().told().fault());
        Check.due("empty classes", -1, new Story().adds(6).told().fault());
        Check.due("no members", -1, new Story().add().names(0, 0, 20).told().fault());
        Check.due("a FIELD that means none, in no instruction", -1,
                new Story().add().classAt(0, 0).name(0, 1).field(0, 0, 1).told().fault());
        Check.due("a field", -1, new Story().add().name(0, 0).member(0, 0, -1).told().fault());
        Check.due("a method without instructions", -1, new Story().add().name(0, 0).member(0, 0, 0).told().fault());
        Check.due("the full program", -1, FULL.told().fault());
    }

    private static Story thirtyMethods() {
        Story story = new Story().adds(2).names(0, 0, 15).names(1, 0, 15);
        for (int m = 0; m < 30; m++) {
            story = story.member(m % 2, m / 2, m % 3);
        }
        return story;
    }

    private static void firstAndLastFault() {
        Check.sentence("Promise 8", "as 100 * method + instruction");
        Story story = thirtyMethods();
        Check.due("the first of all", 0, story.code(0, 10, -1).told().fault());
        Check.due("the last of the first", 19, story.codes(0, 19, 5, 0).code(0, 10, 20).told().fault());
        Check.due("the first of the last", 2900, story.code(29, 10, -1).told().fault());
        Check.due("the last of all", 2919, story.codes(29, 19, 5, 0).code(29, 10, 20).told().fault());
        Check.due("none in the last one", -1, story.codes(29, 19, 5, 0).code(29, 10, 19).told().fault());
        Check.due("fields are counted too", 100, MIXED.clear().add().name(0, 1).member(0, 0, -1).member(0, 0, 0)
                .code(1, 0, 0).told().fault());
    }

    private static void orderOfFaults() {
        Check.sentence("Promise 8", "the first instruction .., by methods and then their instructions");
        Story early = thirtyMethods().code(4, 5, 0, 5, 0, 5, 0, 0, 0);
        Check.due("one", 403, early.told().fault());
        Check.due("an earlier instruction of a later method", 403, early.code(5, 0, 0).told().fault());
        Check.due("a later instruction of an earlier method", 305,
                early.codes(3, 5, 5, 0).code(3, 0, 0).told().fault());
        Check.due("a later one of the same", 403, early.code(4, 0, 0).told().fault());
        Check.due("one in the first method of all", 1, early.code(0, 5, 0, 0, 0).told().fault());
    }

    /** Whether one instruction more in method 2 of MIXED leaves it closed. */
    private static void sound(String which, int what, int n, boolean due) {
        Story story = MIXED.codes(2, 2, 5, 0).code(2, what, n);
        Check.due(which + ": " + what + " with " + n, due ? -1 : 202, story.told().fault());
    }

    private static void soundAt(String which, int what, int... places) {
        for (int place = -2; place <= 21; place++) {
            boolean due = false;
            for (int good : places) {
                due |= good == place;
            }
            sound(which, what, place, due);
        }
        sound(which, what, LEAST, false);
        sound(which, what, MOST, false);
    }

    private static void faultOfPush() {
        Check.sentence("Terms", "CLOSED when .. PUSH has an INT");
        soundAt("an INT at the first and the last place", 0, 0, 13);
        Check.due("an INT behind another pool's end", 101,
                MIXED.clear().adds(2).name(0, 1).member(0, 0, 0).name(1, 1).number(1, 1).member(1, 0, 0)
                        .code(0, 5, 0).code(1, 0, 1, 0, 2).told().fault());
        Check.due("an INT at 19", -1, new Story().add().names(0, 0, 19).number(0, 1).member(0, 0, 0).code(0, 0, 19).told().fault());
        Check.due("an INT at 20", 0, new Story().add().names(0, 0, 19).number(0, 1).member(0, 0, 0).code(0, 0, 20).told().fault());
    }

    private static void faultOfGetAndPut() {
        Check.sentence("Terms", "CLOSED when .. GET and PUT (have) a FIELD .., which mean some field .. that there is");
        soundAt("FIELDs of 40 in class 0 and of 41 in class 1", 1, 5, 8);
        soundAt("FIELDs of 40 in class 0 and of 41 in class 1", 2, 5, 8);
    }

    private static void faultOfCall() {
        Check.sentence("Terms", "CLOSED when .. CALL (has) a METHOD, which mean some .. method that there is");
        soundAt("METHODs of 40 in class 0 and of 41 in class 1", 3, 9, 12);
    }

    private static void meaningComesLater() {
        Check.sentence("Terms", "which mean some field or method that there is (and not before)");
        for (int name : new int[] {0, 99}) {
            Story base = new Story().adds(2).classAt(0, 1).name(0, name).field(0, 0, 1).method(0, 0, 1)
                    .member(0, 1, 0).member(0, 1, -1).name(1, name).name(1, 50);
            Story get = base.code(0, 1, 2);
            Check.due("no field yet", 0, get.told().fault());
            Check.due("a method is none", 0, get.member(1, 0, 0).told().fault());
            Check.due("another name", 0, get.member(1, 1, -1).told().fault());
            Check.due("a field", -1, get.member(1, 0, -1).told().fault());
            Story call = base.code(0, 3, 3);
            Check.due("no method yet", 0, call.told().fault());
            Check.due("a field is none", 0, call.member(1, 0, -1).told().fault());
            Check.due("another method name", 0, call.member(1, 1, 0).told().fault());
            Check.due("a method", -1, call.member(1, 0, 2).told().fault());
        }
    }

    private static void faultOfArg() {
        Check.sentence("Terms", "CLOSED when .. ARG (has) an argument of the method");
        for (int arguments = 0; arguments <= 2; arguments++) {
            Story story = new Story().add().names(0, 0, 3).member(0, 0, arguments);
            for (int i : new int[] {LEAST, -1, 0, 1, 2, 3, MOST}) {
                boolean due = i >= 0 && i < arguments;
                Check.due("ARG " + i + " of " + arguments, due ? -1 : 0, story.code(0, 4, i).told().fault());
            }
        }
    }

    private static void faultOfJumps() {
        Check.sentence("Terms", "CLOSED when .. ZERO and GO (have) an instruction of the method");
        for (int what = 9; what <= 10; what++) {
            for (int length = 1; length <= 20; length++) {
                Story most = new Story().add().name(0, 0).member(0, 0, 0).codes(0, length - 1, 5, 0);
                for (int t : new int[] {LEAST, -1, length, length + 1, MOST}) {
                    Check.due(what + " to " + t + " of " + length, length - 1, most.code(0, what, t).told().fault());
                }
                Check.due(what + " to 0 of " + length, -1, most.code(0, what, 0).told().fault());
                Check.due(what + " to itself, the last", -1, most.code(0, what, length - 1).told().fault());
            }
            Story ahead = new Story().add().name(0, 0).member(0, 0, 0).code(0, what, 1);
            Check.due(what + " to what is not there yet", 0, ahead.told().fault());
            Check.due(what + " to what is there now", -1, ahead.code(0, 5, 0).told().fault());
            Check.due(what + " to another method's", 0, ahead.name(0, 1).member(0, 1, 0).codes(1, 3, 5, 0).told().fault());
        }
    }

    private static void otherNumbers() {
        Check.sentence("Terms", "CLOSED (the other instructions have no number that matters)");
        for (int what : new int[] {5, 6, 7, 8, 11, 12}) {
            for (int n : new int[] {LEAST, -1, 0, 20, 100, MOST}) {
                sound("any number", what, n, true);
            }
        }
    }

    private static void faultOfTheWhole() {
        Check.sentence("Promise 8", "Of the whole program");
        Check.due("the shaken one is closed", 104, MIXED_SHAKEN.code(1, 0, 1).told().fault());
        Check.due("a method that is not reached", 200, MIXED_SHAKEN.code(2, 0, 1).told().fault());
        Check.due("it goes with its class", -1, MIXED_SHAKEN.code(2, 0, 1).clear().told().fault());
    }

    private static void countWhats() {
        Check.sentence("Promise 10", "IllegalArgumentException when what is none of these.");
        for (boolean shaken : BOTH) {
            for (Story story : new Story[] {new Story(), MIXED, MIXED_SHAKEN, FULL_SHAKEN}) {
                for (int what : new int[] {LEAST, -1, 3, 4, MOST}) {
                    Check.noArgument("count " + what, story, t -> t.count(shaken, what));
                }
                for (int what = 0; what <= 2; what++) {
                    int w = what;
                    Check.taken("count " + w, () -> story.told().count(shaken, w));
                }
            }
        }
    }

    private static void countOfNothing() {
        Check.sentence("Promise 10", "all 0 when nothing was shaken");
        for (Story story : new Story[] {new Story(), MIXED, FULL, FULL.clear()}) {
            Story tried = story.clear().then(t -> Check.thrownBy(t::shake));
            for (int what = 0; what <= 2; what++) {
                Check.due("count " + what, 0, story.told().count(true, what));
                Check.due("count " + what + " when a shake was refused", 0, tried.told().count(true, what));
            }
        }
    }

    private static void countOfAll() {
        Check.sentence("Promise 10", "what = 0 how many classes, 1 members, 2 entries it has");
        int[] whole = {2, 4, 1};
        int[] shaken = {1, 2, 1};
        int[] full = {6, 30, 1};
        for (int what = 0; what <= 2; what++) {
            Check.due("whole " + what, whole[what], MIXED_SHAKEN.told().count(false, what));
            Check.due("shaken " + what, shaken[what], MIXED_SHAKEN.told().count(true, what));
            Check.due("full " + what, full[what], FULL_SHAKEN.told().count(false, what));
            Check.due("full and shaken " + what, full[what], FULL_SHAKEN.told().count(true, what));
        }
        Story all = thirtyMethods();
        for (int m = 0; m < 30; m++) {
            all = all.entry(m, true);
        }
        Check.due("30 entries", 30, all.told().count(false, 2));
        Check.due("30 entries shaken", 30, all.shake().told().count(true, 2));
        Check.due("29 entries shaken", 29, all.entry(29, false).shake().told().count(true, 2));
    }

    private static void poolOfNoClass() {
        Check.sentence("Promise 11", "IndexOutOfBoundsException when there is no such class.");
        for (int c : new int[] {LEAST, -1, 2, 3, 6, MOST}) {
            Check.noIndex("whole pool " + c, MIXED_SHAKEN, t -> t.pool(false, c));
        }
        for (int c : new int[] {LEAST, -1, 1, 2, 6, MOST}) {
            Check.noIndex("shaken pool " + c, MIXED_SHAKEN, t -> t.pool(true, c));
        }
        for (boolean shaken : BOTH) {
            Check.noIndex("pool -1 of six", FULL_SHAKEN, t -> t.pool(shaken, -1));
            Check.noIndex("pool 6 of six", FULL_SHAKEN, t -> t.pool(shaken, 6));
            Check.due("pool 5 of six", 20, FULL_SHAKEN.told().pool(shaken, 5));
            Check.noIndex("pool 0 of none", new Story(), t -> t.pool(shaken, 0));
        }
        Check.noIndex("nothing was shaken", FULL, t -> t.pool(true, 0));
    }

    private static void poolSizes() {
        Check.sentence("Promise 11", "How many constants a class has in its pool.");
        Story story = new Story().adds(2);
        for (int size = 0; size <= 20; size++) {
            Check.due("constants", size, story.told().pool(false, 1));
            Check.due("of the other class", 0, story.told().pool(false, 0));
            if (size < 20) {
                story = story.name(1, size);
            }
        }
        Check.due("a refused one does not count", 20, story.then(t -> Check.thrownBy(() -> t.constant(1, 0, 0, 0))).told().pool(false, 1));
        Check.due("the whole one", 6, MIXED_SHAKEN.told().pool(false, 0));
        Check.due("the shaken one", 3, MIXED_SHAKEN.told().pool(true, 0));
        Check.due("the least shaken one", 1, MIXED.clear().add().name(0, 3).member(0, 0, 0).entry(0, true).shake().told().pool(true, 0));
    }

    private static void constantOfNoClass() {
        Check.sentence("Promise 12", "IndexOutOfBoundsException when there is no such class");
        for (int what : new int[] {0, 3}) {
            for (int c : new int[] {LEAST, -1, 2, 6, MOST}) {
                Check.noIndex("whole " + c, MIXED_SHAKEN, t -> t.constantAt(false, c, 0, what));
            }
            for (int c : new int[] {LEAST, -1, 1, 6, MOST}) {
                Check.noIndex("shaken " + c, MIXED_SHAKEN, t -> t.constantAt(true, c, 0, what));
            }
            Check.noIndex("whole 6 of six", FULL_SHAKEN, t -> t.constantAt(false, 6, 0, what));
            Check.noIndex("shaken 6 of six", FULL_SHAKEN, t -> t.constantAt(true, 6, 0, what));
        }
    }

    private static void constantOfNoPlace() {
        Check.sentence("Promise 12", "IndexOutOfBoundsException when there is no such .. place");
        for (int what : new int[] {0, -1, 3}) {
            for (int place : new int[] {LEAST, -1, 6, 7, 20, MOST}) {
                Check.noIndex("whole " + place, MIXED_SHAKEN, t -> t.constantAt(false, 0, place, what));
            }
            for (int place : new int[] {LEAST, -1, 3, 4, 20, MOST}) {
                Check.noIndex("shaken " + place, MIXED_SHAKEN, t -> t.constantAt(true, 0, place, what));
            }
            for (boolean shaken : BOTH) {
                Check.noIndex("place 20 of 20", FULL_SHAKEN, t -> t.constantAt(shaken, 5, 20, what));
                Check.noIndex("place -1 of 20", FULL_SHAKEN, t -> t.constantAt(shaken, 5, -1, what));
            }
            Check.noIndex("an empty pool", new Story().add(), t -> t.constantAt(false, 0, 0, what));
        }
        for (boolean shaken : BOTH) {
            Check.due("place 0 of 20", 2, FULL_SHAKEN.told().constantAt(shaken, 5, 0, 0));
            Check.due("place 19 of 20", 505, FULL_SHAKEN.told().constantAt(shaken, 5, 19, 1));
        }
        Check.due("the last whole one", 6, MIXED_SHAKEN.told().constantAt(false, 0, 5, 1));
        Check.due("the last shaken one", 3, MIXED_SHAKEN.told().constantAt(true, 0, 2, 0));
    }

    private static void constantWhats() {
        Check.sentence("Promise 12", "IllegalArgumentException when what is none of these.");
        for (boolean shaken : BOTH) {
            for (int what : new int[] {LEAST, -1, 3, 4, MOST}) {
                Check.noArgument("what " + what, MIXED_SHAKEN, t -> t.constantAt(shaken, 0, 0, what));
                Check.noArgument("what " + what + " of the last", FULL_SHAKEN, t -> t.constantAt(shaken, 5, 19, what));
            }
        }
        Check.due("what 0", 3, MIXED_SHAKEN.told().constantAt(false, 0, 3, 0));
        Check.due("what 1", 2, MIXED_SHAKEN.told().constantAt(false, 0, 3, 1));
        Check.due("what 2", 1, MIXED_SHAKEN.told().constantAt(false, 0, 3, 2));
        Check.due("what 0 shaken", 3, MIXED_SHAKEN.told().constantAt(true, 0, 2, 0));
        Check.due("what 1 shaken", 1, MIXED_SHAKEN.told().constantAt(true, 0, 2, 1));
        Check.due("what 2 shaken", 0, MIXED_SHAKEN.told().constantAt(true, 0, 2, 2));
    }

    private static void constantWithoutSecond() {
        Check.sentence("Promise 12", "2 its second one (0 for those without)");
        for (boolean shaken : BOTH) {
            for (int place : new int[] {0, 1, 2, 6, 12, 14, 19}) {
                Check.due("second of " + place, 0, FULL_SHAKEN.told().constantAt(shaken, 3, place, 2));
            }
            Check.due("second of a METHOD", 2, FULL_SHAKEN.told().constantAt(shaken, 3, 7, 2));
            Check.due("second of a FIELD", 6, FULL_SHAKEN.told().constantAt(shaken, 3, 11, 2));
        }
        Story used = new Story().add().constant(0, 1, 5, MOST).constant(0, 0, 6, LEAST).constant(0, 2, 0, -7);
        for (int place = 0; place < 3; place++) {
            Check.due("b was told for " + place, 0, used.told().constantAt(false, 0, place, 2));
        }
        Story again = new Story().add().classAt(0, 0).name(0, 1).field(0, 0, 1).clear().add()
                .number(0, 4).number(0, 4).constant(0, 0, 4, 8);
        Check.due("where a FIELD was before", 0, again.told().constantAt(false, 0, 2, 2));
    }

    private static void memberThatIsNot() {
        Check.sentence("Promise 13", "IndexOutOfBoundsException when there is no such member");
        for (int what : new int[] {0, -1, 6}) {
            for (int m : new int[] {LEAST, -1, 4, 5, 30, MOST}) {
                Check.noIndex("whole " + m, MIXED_SHAKEN, t -> t.memberAt(false, m, what));
            }
            for (int m : new int[] {LEAST, -1, 2, 3, 30, MOST}) {
                Check.noIndex("shaken " + m, MIXED_SHAKEN, t -> t.memberAt(true, m, what));
            }
            for (boolean shaken : BOTH) {
                Check.noIndex("30 of 30", FULL_SHAKEN, t -> t.memberAt(shaken, 30, what));
                Check.noIndex("0 of none", new Story().adds(6), t -> t.memberAt(shaken, 0, what));
            }
        }
        for (boolean shaken : BOTH) {
            Check.due("0 of 30", 0, FULL_SHAKEN.told().memberAt(shaken, 0, 0));
            Check.due("29 of 30", 5, FULL_SHAKEN.told().memberAt(shaken, 29, 0));
        }
        Check.due("the last whole one", 1, MIXED_SHAKEN.told().memberAt(false, 3, 0));
        Check.due("the last shaken one", 1, MIXED_SHAKEN.told().memberAt(true, 1, 2));
    }

    private static void memberWhats() {
        Check.sentence("Promise 13", "IllegalArgumentException when what is none of these.");
        for (boolean shaken : BOTH) {
            for (int member : new int[] {0, 1}) {
                for (int what : new int[] {LEAST, -1, 6, 7, MOST}) {
                    Check.noArgument("what " + what, MIXED_SHAKEN, t -> t.memberAt(shaken, member, what));
                }
            }
            Check.noArgument("what 6 of the last", FULL_SHAKEN, t -> t.memberAt(shaken, 29, 6));
        }
    }

    private static void memberNumbers() {
        Check.sentence("Promise 13", "2 its arguments (-1 for a field), 3 how many instructions it has, 4 whether it is an entry (1 or 0)");
        int[][] whole = {{0, 1, -1, 0, 0, 40}, {0, 1, 1, 4, 1, 40}, {1, 2, 2, 0, 0, 41}, {1, 2, -1, 0, 0, 41}};
        int[][] shaken = {{0, 0, -1, 0, 0, 40}, {0, 0, 1, 4, 1, 40}};
        for (int what = 0; what < 6; what++) {
            for (int m = 0; m < 4; m++) {
                Check.due("whole " + m + " " + what, whole[m][what], MIXED_SHAKEN.told().memberAt(false, m, what));
            }
            for (int m = 0; m < 2; m++) {
                Check.due("shaken " + m + " " + what, shaken[m][what], MIXED_SHAKEN.told().memberAt(true, m, what));
            }
        }
        for (boolean of : BOTH) {
            Check.due("20 instructions", 20, FULL_SHAKEN.told().memberAt(of, 25, 3));
            Check.due("no instructions", 0, FULL_SHAKEN.told().memberAt(of, 27, 3));
            Check.due("2 arguments", 2, FULL_SHAKEN.told().memberAt(of, 27, 2));
            Check.due("0 arguments", 0, FULL_SHAKEN.told().memberAt(of, 26, 2));
            Check.due("no entry", 0, FULL_SHAKEN.told().memberAt(of, 25, 4));
            Check.due("the entry", 1, FULL_SHAKEN.told().memberAt(of, 0, 4));
        }
    }

    private static void codeOfNoMethod() {
        Check.sentence("Promise 14", "IndexOutOfBoundsException when there is no such method");
        for (int m : new int[] {LEAST, -1, 0, 3, 4, 30, MOST}) {
            Check.noIndex("whole " + m, MIXED_SHAKEN, t -> t.codeAt(false, m, 0));
        }
        for (int m : new int[] {LEAST, -1, 0, 2, 30, MOST}) {
            Check.noIndex("shaken " + m, MIXED_SHAKEN, t -> t.codeAt(true, m, 0));
        }
        for (boolean shaken : BOTH) {
            Check.noIndex("30 of 30", FULL_SHAKEN, t -> t.codeAt(shaken, 30, 0));
            Check.noIndex("a field at 29", FULL_SHAKEN, t -> t.codeAt(shaken, 29, 0));
            Check.noIndex("none at all", new Story(), t -> t.codeAt(shaken, 0, 0));
        }
        Check.due("a method at 0", 5000, thirtyMethods().code(0, 5, 0).told().codeAt(false, 0, 0));
        Check.due("a method at 29", 5000, thirtyMethods().code(29, 5, 0).told().codeAt(false, 29, 0));
    }

    private static void codeOfNoInstruction() {
        Check.sentence("Promise 14", "IndexOutOfBoundsException when there is no such .. instruction");
        for (boolean shaken : BOTH) {
            for (int k : new int[] {LEAST, -1, 4, 5, 20, MOST}) {
                Check.noIndex("instruction " + k + " of 4", MIXED_SHAKEN, t -> t.codeAt(shaken, 1, k));
            }
            for (int k : new int[] {LEAST, -1, 20, 21, MOST}) {
                Check.noIndex("instruction " + k + " of 20", FULL_SHAKEN, t -> t.codeAt(shaken, 25, k));
            }
            for (int k : new int[] {-1, 0, 1}) {
                Check.noIndex("instruction " + k + " of none", FULL_SHAKEN, t -> t.codeAt(shaken, 27, k));
            }
            Check.due("0 of 4", 4000, MIXED_SHAKEN.told().codeAt(shaken, 1, 0));
            Check.due("3 of 4", 11000, MIXED_SHAKEN.told().codeAt(shaken, 1, 3));
            Check.due("0 of 20", 14, FULL_SHAKEN.told().codeAt(shaken, 25, 0));
            Check.due("19 of 20", 11000, FULL_SHAKEN.told().codeAt(shaken, 25, 19));
        }
    }

    private static void codeSums() {
        Check.sentence("Promise 14", "1000 * what it is and its number (wrapping, negative and large numbers too)");
        int[] numbers = {LEAST, -12001, -1, 0, 999, 1000, MOST - 12000, MOST - 11999, MOST};
        for (int n : numbers) {
            Story story = new Story().add().name(0, 0).member(0, 0, 0).code(0, 12, n).entry(0, true).shake();
            Check.due("THROW " + n, 12000 + n, story.told().codeAt(false, 0, 0));
            Check.due("THROW " + n + " shaken", 12000 + n, story.told().codeAt(true, 0, 0));
        }
        Check.due("PUSH of a negative number", -7, MIXED.code(1, 0, -7).told().codeAt(false, 1, 4));
    }

    private static void movedOfNone() {
        Check.sentence("Promise 15", "NONE when .. there was none");
        for (int m : new int[] {LEAST, -2, -1, 0, 1, 29, 30, MOST}) {
            Check.due("nothing was shaken: " + m, -1, FULL.told().moved(m));
        }
        for (int m : new int[] {LEAST, -2, -1, 4, 5, 29, 30, 31, MOST}) {
            Check.due("no such member: " + m, -1, MIXED_SHAKEN.told().moved(m));
        }
        for (int m : new int[] {LEAST, -1, 30, 31, MOST}) {
            Check.due("no such one of 30: " + m, -1, FULL_SHAKEN.told().moved(m));
        }
        Check.due("a later member", -1, MIXED_SHAKEN.name(0, 3).member(0, 6, 0).told().moved(4));
        for (int m = 0; m < 30; m++) {
            Check.due("all are kept", m, FULL_SHAKEN.told().moved(m));
        }
    }

    private static void movedOfLeftOut() {
        Check.sentence("Promise 15", "NONE when it was not kept");
        int[] due = {0, 1, -1, -1};
        for (int m = 0; m < 4; m++) {
            Check.due("moved " + m, due[m], MIXED_SHAKEN.told().moved(m));
        }
        Story last = thirtyMethods().entry(29, true).shake();
        for (int m = 0; m < 29; m++) {
            Check.due("left out " + m, -1, last.told().moved(m));
        }
        Check.due("the last one alone", 0, last.told().moved(29));
        Check.due("kept before, but not now", -1, last.entry(29, false).entry(0, true).shake().told().moved(29));
        Check.due("kept now, but not before", 0, last.entry(29, false).entry(0, true).shake().told().moved(0));
    }

    private static void movedAsItWas() {
        Check.sentence("Promise 15", "a member of the whole one, as it was when that was shaken");
        Story last = thirtyMethods().entry(29, true).shake();
        Story[] later = {
            last.entry(0, true), last.entry(29, false), last.code(29, 10, 99), last.clear(),
            last.clear().add().name(0, 1).member(0, 0, 0), last.clear().then(t -> Check.thrownBy(t::shake)),
            last.code(29, 10, 99).then(t -> Check.thrownBy(t::shake)),
        };
        for (Story story : later) {
            Check.due("moved 29", 0, story.told().moved(29));
            Check.due("moved 0", -1, story.told().moved(0));
        }
    }
}
