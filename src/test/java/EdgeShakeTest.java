/** The boundary cases of shaking, promise 9 and 'TO SHAKE' in the terms, sentence by sentence. */
public final class EdgeShakeTest {
    private static final int PUSH = 0;
    private static final int GET = 1;
    private static final int PUT = 2;
    private static final int CALL = 3;
    private static final int RETURN = 11;
    private static final Story FULL = Story.full();

    public static void main(String[] args) {
        notClosed();
        noEntry();
        howManyAreKept();
        wholeStays();
        fullIsKept();
        callsAreFollowed();
        callsOfLeftOut();
        fieldsAreKept();
        classOfOneMember();
        classWithoutKept();
        membersInOldOrder();
        constantsInInstructions();
        constantsOfItsClass();
        numbersThatAreNoPlaces();
        namesOfMembers();
        partsOfFieldsAndMethods();
        twentyConstantsOrOne();
        newNumbersInConstants();
        newNumbersInInstructions();
        otherNumbersStay();
        entryNamesStay();
        leastNumbers();
        leastNumbersRoundEntries();
        thirtyNames();
        namesNotKept();
        sameEverywhere();
        entryNameOfOthers();
        entriesStayEntries();
        shakenStays();
        shakenLast();
        doesTheSame();
        Check.finish();
    }

    private static void notClosed() {
        Check.sentence("Promise 9", "IllegalStateException when it is not closed");
        Story story = new Story().add().names(0, 10, 2).member(0, 0, 0).member(0, 1, 0).entry(0, true);
        Check.due("closed", 1, story.told().shake());
        for (int what = 0; what <= 4; what++) {
            Check.noState("a fault in the entry", story.code(0, what, 0), ShakenTree::shake);
            Check.noState("a fault in another method", story.code(1, what, 0), ShakenTree::shake);
            Check.noState("when something was shaken before", story.shake().code(1, what, 0), ShakenTree::shake);
        }
        Check.noState("a jump behind the last", story.code(1, 10, 1), ShakenTree::shake);
        Check.due("a jump to the last", 1, story.code(1, 10, 1, 10, 1).told().shake());
        Check.noState("a fault in the full program", FULL.shake().code(27, PUSH, 0), ShakenTree::shake);
    }

    private static void noEntry() {
        Check.sentence("Promise 9", "IllegalStateException when it .. has no entry");
        Story story = new Story().add().names(0, 10, 2).member(0, 0, 0).member(0, 1, -1);
        Check.noState("nothing", new Story(), ShakenTree::shake);
        Check.noState("six classes", new Story().adds(6), ShakenTree::shake);
        Check.noState("no method but a field", new Story().add().name(0, 1).member(0, 0, -1), ShakenTree::shake);
        Check.noState("no entry", story, ShakenTree::shake);
        Check.due("one entry", 1, story.entry(0, true).told().shake());
        Check.noState("not any more", story.entry(0, true).entry(0, false), ShakenTree::shake);
        Check.noState("none, after a shake", story.entry(0, true).shake().entry(0, false), ShakenTree::shake);
        Check.noState("all have gone", story.entry(0, true).shake().clear(), ShakenTree::shake);
        Check.noState("neither closed nor an entry", story.code(0, PUSH, 0), ShakenTree::shake);
        Check.noState("the full program", FULL.entry(0, false), ShakenTree::shake);
    }

    /** Six methods in two classes by turns, named 20 .. 25, each of which calls the next one. */
    private static Story chain() {
        Story story = new Story().adds(2);
        for (int owner = 0; owner < 2; owner++) {
            story = story.classAt(owner, 1 - owner).name(owner, 20 + owner).name(owner, 22 + owner).name(owner, 24 + owner);
            for (int k = 0; k < 3; k++) {
                story = story.name(owner, 21 + owner + 2 * k).method(owner, 0, 4 + 2 * k);
            }
        }
        for (int m = 0; m < 6; m++) {
            story = story.member(m % 2, 1 + m / 2, 0);
        }
        for (int m = 0; m < 5; m++) {
            story = story.code(m, CALL, 5 + m / 2 * 2);
        }
        return story;
    }

    private static void howManyAreKept() {
        Check.sentence("Promise 9", "answers how many members are kept");
        Check.due("one of one", 1, new Story().add().name(0, 0).member(0, 0, 2).entry(0, true).told().shake());
        Check.due("one of thirty", 1, thirtyMethods().entry(29, true).told().shake());
        Story all = thirtyMethods();
        for (int m = 0; m < 30; m++) {
            all = all.entry(m, true);
        }
        Check.due("all thirty are entries", 30, all.told().shake());
        Check.due("all but one", 29, all.entry(0, false).told().shake());
        Check.due("all thirty by one entry", 30, FULL.told().shake());
        Check.due("again", 30, FULL.shake().told().shake());
    }

    private static Story thirtyMethods() {
        Story story = new Story().adds(2).names(0, 0, 15).names(1, 0, 15);
        for (int m = 0; m < 30; m++) {
            story = story.member(m % 2, m / 2, m % 3);
        }
        return story;
    }

    private static void wholeStays() {
        Check.sentence("Terms", "The WHOLE program is what is built (a shake leaves it as it is)");
        Check.same("the full program", FULL.shake(), FULL.shake().shake());
        Check.same("shaken twice and cleared", FULL.shake().clear(), FULL.shake().shake().clear());
        for (int what = 0; what < 3; what++) {
            Check.due("count " + what, FULL.told().count(false, what), FULL.shake().told().count(false, what));
        }
        Check.due("an old name", 70, FULL.shake().told().memberAt(false, 29, 5));
        Check.due("an old NAME", 98, FULL.shake().told().constantAt(false, 0, 3, 1));
        Check.due("an old place", 13, FULL.shake().told().codeAt(false, 0, 14) - 3000);
    }

    private static void fullIsKept() {
        Check.sentence("Terms", "TO SHAKE (at most 6 classes, 20 constants, 30 members and 20 instructions are kept)");
        for (int c = 0; c < 6; c++) {
            ShakenTree t = FULL.shake().told();
            Check.due("pool " + c, 20, t.pool(true, c));
            for (int p = 0; p < 20; p++) {
                boolean renamed = t.constantAt(false, c, p, 0) == 1 && t.constantAt(false, c, p, 1) != 99;
                Check.due("kind " + c + " " + p, t.constantAt(false, c, p, 0), t.constantAt(true, c, p, 0));
                Check.due("first " + c + " " + p, t.constantAt(false, c, p, 1) - (renamed ? 70 : 0), t.constantAt(true, c, p, 1));
                Check.due("second " + c + " " + p, t.constantAt(false, c, p, 2), t.constantAt(true, c, p, 2));
            }
            for (int k = 0; k < 20; k++) {
                Check.due("instruction " + c + " " + k, t.codeAt(false, 5 * c, k), t.codeAt(true, 5 * c, k));
            }
        }
    }

    private static void callsAreFollowed() {
        Check.sentence("Terms", "KEPT are the entries, the methods that kept methods' CALLs mean");
        Story story = chain();
        int[] due = {6, 5, 4, 3, 2, 1};
        for (int m = 0; m < 6; m++) {
            Check.due("from method " + m, due[m], story.entry(m, true).told().shake());
            ShakenTree t = story.entry(m, true).shake().told();
            for (int k = 0; k < 6; k++) {
                Check.due("moved " + k, k < m ? -1 : k - m, t.moved(k));
            }
        }
        Story self = new Story().add().classAt(0, 0).name(0, 5).method(0, 0, 1).member(0, 1, 0).code(0, CALL, 2);
        Check.due("itself", 1, self.entry(0, true).told().shake());
        Story back = self.name(0, 6).method(0, 0, 3).member(0, 3, 0).code(0, CALL, 4).code(1, CALL, 2);
        Check.due("one another", 2, back.entry(1, true).told().shake());
        Check.due("two entries that call one another", 2, back.entry(0, true).entry(1, true).told().shake());
    }

    private static void callsOfLeftOut() {
        Check.sentence("Terms", "KEPT are .. (what only methods call that are not kept is not)");
        Story story = new Story().add().classAt(0, 0).names(0, 10, 3).method(0, 0, 2).field(0, 0, 3)
                .member(0, 1, 0).member(0, 2, 0).member(0, 3, -1).member(0, 3, 0)
                .code(3, CALL, 4, GET, 5).entry(0, true);
        Check.due("the entry alone", 1, story.told().shake());
        Check.due("a METHOD in no instruction keeps none", 1, story.shake().told().pool(true, 0));
        Check.due("when it is an entry too", 4, story.entry(3, true).told().shake());
        Check.due("when the entry calls one", 2, story.code(0, CALL, 4).told().shake());
    }

    private static void fieldsAreKept() {
        Check.sentence("Terms", "the fields that kept methods' GETs and PUTs mean");
        Story story = new Story().add().classAt(0, 0).names(0, 10, 3).field(0, 0, 2).field(0, 0, 3)
                .member(0, 2, -1).member(0, 1, 0).member(0, 3, -1).entry(1, true);
        Check.due("neither", 1, story.told().shake());
        Check.due("GET", 2, story.code(1, GET, 5).told().shake());
        Check.due("PUT", 2, story.code(1, PUT, 4).told().shake());
        Check.due("the one that is meant", 1, story.code(1, GET, 5).shake().told().moved(2));
        Check.due("not the other", -1, story.code(1, GET, 5).shake().told().moved(0));
        Check.due("both", 3, story.code(1, GET, 5, PUT, 4).told().shake());
        Check.due("twice is once", 2, story.code(1, GET, 5, PUT, 5, GET, 5).told().shake());
        Story alike = story.member(0, 2, 0).code(1, GET, 4);
        Check.due("not the method of that name", -1, alike.shake().told().moved(3));
    }

    private static void classOfOneMember() {
        Check.sentence("Terms", "A class is kept if a member of it is.");
        Story story = new Story().adds(6).classAt(0, 5).name(0, 7).field(0, 0, 1).member(0, 1, 0)
                .name(5, 7).name(5, 8).member(5, 1, 0).member(5, 0, -1);
        Check.due("the last class by a field", 2, story.code(0, GET, 2).entry(0, true).shake().told().count(true, 0));
        Check.due("its number", 1, story.code(0, GET, 2).entry(0, true).shake().told().memberAt(true, 1, 0));
        Check.due("the CLASS", 1, story.code(0, GET, 2).entry(0, true).shake().told().constantAt(true, 0, 0, 1));
        Check.due("the last class alone", 1, story.entry(1, true).shake().told().count(true, 0));
        Check.due("it is class 0 now", 0, story.entry(1, true).shake().told().memberAt(true, 0, 0));
        Check.due("the first class alone", 1, story.entry(0, true).shake().told().count(true, 0));
        Check.due("all six", 6, FULL.shake().told().count(true, 0));
    }

    private static void classWithoutKept() {
        Check.sentence("Terms", "A class is kept if a member of it is (else not, though a CLASS says it or it has constants).");
        Story story = new Story().adds(3).names(0, 0, 20).member(0, 0, 0).member(0, 0, -1)
                .classAt(1, 0).classAt(1, 2).name(1, 5).member(1, 2, 0).entry(2, true);
        Check.due("one class", 1, story.shake().told().count(true, 0));
        Check.due("its pool", 1, story.shake().told().pool(true, 0));
        Check.due("its name", 5, story.shake().told().memberAt(true, 0, 5));
        Check.noIndex("no second class", story.shake(), t -> t.pool(true, 1));
    }

    private static void membersInOldOrder() {
        Check.sentence("Terms", "Kept classes and members are numbered anew, in their old order.");
        Story story = thirtyMethods().entry(28, true).entry(3, true).entry(10, true).shake();
        int[] old = {3, 10, 28};
        for (int m = 0; m < 3; m++) {
            Check.due("moved " + old[m], m, story.told().moved(old[m]));
            Check.due("class of " + m, old[m] % 2, story.told().memberAt(true, m, 0));
            Check.due("arguments of " + m, old[m] % 3, story.told().memberAt(true, m, 2));
            Check.due("name of " + m, old[m] / 2, story.told().memberAt(true, m, 5));
        }
        Story ends = thirtyMethods().entry(29, true).entry(0, true).shake();
        Check.due("the first", 0, ends.told().moved(0));
        Check.due("the last", 1, ends.told().moved(29));
    }

    /** One class with an entry, a method that is not kept, a field and INTs, to see which constants stay. */
    private static Story constants() {
        return new Story().add().number(0, 100).name(0, 50).number(0, 101).classAt(0, 0).name(0, 51)
                .field(0, 3, 4).name(0, 52).method(0, 3, 6).number(0, 102)
                .member(0, 1, 1).member(0, 4, -1).member(0, 6, 0).entry(0, true);
    }

    private static void kept(String which, Story story, int... places) {
        ShakenTree t = story.shake().told();
        Check.due(which + ": how many", places.length, t.pool(true, 0));
        for (int p = 0; p < places.length; p++) {
            Check.due(which + ": kind of " + p, t.constantAt(false, 0, places[p], 0), t.constantAt(true, 0, p, 0));
            if (t.constantAt(true, 0, p, 0) == 0) {
                Check.due(which + ": INT " + p, t.constantAt(false, 0, places[p], 1), t.constantAt(true, 0, p, 1));
            }
        }
    }

    private static void constantsInInstructions() {
        Check.sentence("Terms", "A constant is kept if a kept method of its class has it in a PUSH, GET, PUT or CALL");
        kept("none but the name", constants(), 1);
        kept("the first INT", constants().code(0, PUSH, 0), 0, 1);
        kept("the last INT", constants().code(0, PUSH, 8), 1, 8);
        kept("one twice", constants().code(0, PUSH, 2, PUSH, 2), 1, 2);
        kept("all INTs", constants().code(0, PUSH, 8, PUSH, 2, PUSH, 0), 0, 1, 2, 8);
        kept("GET", constants().code(0, GET, 5), 1, 3, 4, 5);
        kept("PUT", constants().code(0, PUT, 5), 1, 3, 4, 5);
        kept("CALL", constants().code(0, CALL, 7), 1, 3, 6, 7);
        kept("all", constants().code(0, CALL, 7, GET, 5, PUSH, 0, PUSH, 2, PUSH, 8), 0, 1, 2, 3, 4, 5, 6, 7, 8);
        kept("what the called one has", constants().code(0, CALL, 7).code(2, PUSH, 8), 1, 3, 6, 7, 8);
        kept("what another one has", constants().code(2, PUSH, 8, GET, 5), 1);
    }

    private static void constantsOfItsClass() {
        Check.sentence("Terms", "a kept method of its class (one of another class does not keep what is at that place here)");
        Story story = new Story().adds(2).number(0, 1).name(0, 5).number(0, 2).member(0, 1, 0)
                .number(1, 3).name(1, 5).number(1, 4).member(1, 1, 0)
                .code(0, PUSH, 0).code(1, PUSH, 2).entry(0, true).entry(1, true).shake();
        Check.due("pool 0", 2, story.told().pool(true, 0));
        Check.due("pool 1", 2, story.told().pool(true, 1));
        Check.due("INT of 0", 1, story.told().constantAt(true, 0, 0, 1));
        Check.due("INT of 1", 4, story.told().constantAt(true, 1, 1, 1));
    }

    private static void numbersThatAreNoPlaces() {
        Check.sentence("Terms", "in a PUSH, GET, PUT or CALL (and in no other instruction)");
        for (int what : new int[] {5, 6, 7, 8, 11, 12}) {
            for (int n : new int[] {0, 2, 5, 7, 8}) {
                kept(what + " with " + n, constants().code(0, what, n), 1);
            }
        }
        kept("ARG, ZERO and GO", constants().code(0, 4, 0, 9, 2, 10, 0), 1);
    }

    private static void namesOfMembers() {
        Check.sentence("Terms", "or it is the name of a kept member of its class");
        Story story = new Story().add().names(0, 60, 3).name(0, 61).name(0, 62)
                .member(0, 4, 0).member(0, 1, 0).member(0, 2, -1);
        kept("the last place", story.entry(0, true), 4);
        kept("another place", story.entry(1, true), 1);
        kept("two", story.entry(0, true).entry(1, true), 1, 4);
        Check.due("its new place", 1, story.entry(0, true).entry(1, true).shake().told().memberAt(true, 0, 1));
        Check.due("the other's", 0, story.entry(0, true).entry(1, true).shake().told().memberAt(true, 1, 1));
        Story shared = new Story().add().names(0, 60, 2).member(0, 1, 0).member(0, 1, -1).entry(0, true);
        kept("one NAME of two members", shared, 1);
    }

    private static void partsOfFieldsAndMethods() {
        Check.sentence("Terms", "or a kept FIELD or METHOD has it");
        Story twice = new Story().add().classAt(0, 0).name(0, 50).classAt(0, 0).name(0, 51).name(0, 51).name(0, 51)
                .field(0, 0, 4).field(0, 2, 3).method(0, 2, 5)
                .member(0, 1, 0).member(0, 3, -1).member(0, 5, 0).entry(0, true);
        kept("the first CLASS and its own NAME", twice.code(0, GET, 6), 0, 1, 3, 4, 6);
        kept("the other CLASS and the member's NAME", twice.code(0, GET, 7), 1, 2, 3, 7);
        kept("a METHOD", twice.code(0, CALL, 8), 1, 2, 5, 8);
        kept("a FIELD that is not kept has nothing", twice, 1);
        kept("all three", twice.code(0, GET, 6, GET, 7, CALL, 8), 0, 1, 2, 3, 4, 5, 6, 7, 8);
    }

    private static void twentyConstantsOrOne() {
        Check.sentence("Terms", "those of a class are numbered anew in their old order");
        Story story = new Story().add();
        for (int p = 0; p < 19; p++) {
            story = story.number(0, 1000 - p);
        }
        story = story.name(0, 99).member(0, 19, 0).entry(0, true);
        kept("the last place alone", story, 19);
        Check.due("it is 0 now", 0, story.shake().told().memberAt(true, 0, 1));
        Check.due("the first and the last", 1, story.code(0, PUSH, 0).shake().told().memberAt(true, 0, 1));
        Story all = story;
        for (int p = 18; p >= 0; p--) {
            all = all.code(0, PUSH, p);
        }
        ShakenTree t = all.shake().told();
        Check.due("all twenty", 20, t.pool(true, 0));
        for (int p = 0; p < 19; p++) {
            Check.due("INT " + p, 1000 - p, t.constantAt(true, 0, p, 1));
            Check.due("PUSH " + p, 18 - p, t.codeAt(true, 0, p));
        }
        kept("every second one", story.code(0, PUSH, 17, PUSH, 1, PUSH, 3), 1, 3, 17, 19);
    }

    private static void newNumbersInConstants() {
        Check.sentence("Terms", "FIELDs, METHODs and CLASSes say the new numbers");
        Story story = new Story().adds(4).number(1, 9).classAt(1, 0).classAt(1, 3).name(1, 30).name(1, 31)
                .number(1, 9).method(1, 2, 4).field(1, 2, 3).member(1, 3, 0)
                .number(3, 9).name(3, 31).name(3, 30).member(3, 1, 1).member(3, 2, -1)
                .code(0, CALL, 6, GET, 7).entry(0, true).shake();
        int[][] due = {{2, 1, 0}, {1, 30, 0}, {1, 0, 0}, {4, 0, 2}, {3, 0, 1}};
        for (int p = 0; p < due.length; p++) {
            for (int what = 0; what < 3; what++) {
                Check.due("constant " + p + " " + what, due[p][what], story.told().constantAt(true, 0, p, what));
            }
        }
        Check.due("how many", 5, story.told().pool(true, 0));
        Check.due("classes", 2, story.told().count(true, 0));
    }

    private static void newNumbersInInstructions() {
        Check.sentence("Terms", "instructions .. say the new numbers");
        Story story = constants().code(0, PUSH, 8, GET, 5, PUT, 5, CALL, 7, PUSH, 2).shake();
        int[] due = {7, 1004, 2004, 3006, 1};
        for (int k = 0; k < due.length; k++) {
            Check.due("instruction " + k, due[k], story.told().codeAt(true, 0, k));
        }
    }

    private static void otherNumbersStay() {
        Check.sentence("Terms", "instructions .. say the new numbers (the numbers of the others are none of a constant)");
        for (int n : new int[] {Integer.MIN_VALUE, -1, 0, 1, 8, 19, 20, Integer.MAX_VALUE}) {
            for (int what : new int[] {5, 6, 7, 8, 11, 12}) {
                Check.due(what + " with " + n, 1000 * what + n, constants().code(0, what, n).shake().told().codeAt(true, 0, 0));
            }
        }
        Check.due("ARG", 4000, constants().code(0, 4, 0).shake().told().codeAt(true, 0, 0));
        Story jumps = constants().codes(0, 18, 5, 0).code(0, 9, 19, 10, 18).shake();
        Check.due("ZERO", 9019, jumps.told().codeAt(true, 0, 18));
        Check.due("GO", 10018, jumps.told().codeAt(true, 0, 19));
    }

    /** Methods of one class with these names, each but the first called by the first. */
    private static Story named(int... names) {
        Story story = new Story().add().classAt(0, 0);
        for (int name : names) {
            story = story.name(0, name);
        }
        for (int k = 1; k < names.length; k++) {
            story = story.method(0, 0, 1 + k);
        }
        for (int k = 0; k < names.length; k++) {
            story = story.member(0, 1 + k, 0);
        }
        for (int k = 1; k < names.length; k++) {
            story = story.code(0, CALL, names.length + k);
        }
        return story.entry(0, true);
    }

    private static void become(String which, Story story, int... due) {
        ShakenTree t = story.shake().told();
        Check.due(which + ": members", due.length, t.count(true, 1));
        for (int m = 0; m < due.length; m++) {
            Check.due(which + ": name of " + m, due[m], t.memberAt(true, m, 5));
            Check.due(which + ": NAME of " + m, due[m], t.constantAt(true, t.memberAt(true, m, 0), t.memberAt(true, m, 1), 1));
        }
    }

    private static void entryNamesStay() {
        Check.sentence("Terms", "NAMES of entries stay");
        become("the least", named(0), 0);
        become("the largest", named(99), 99);
        become("both", named(99, 0).entry(1, true), 99, 0);
        become("three", named(99, 50, 98).entry(1, true).entry(2, true), 99, 50, 98);
        become("not any more an entry", named(98, 99).entry(1, true).entry(1, false), 98, 0);
    }

    private static void leastNumbers() {
        Check.sentence("Terms", "the other numbers of kept NAMEs become, from the least one on, the least numbers");
        become("the largest one", named(50, 99), 50, 0);
        become("the least one", named(50, 0), 50, 0);
        become("two in old order", named(50, 98, 99), 50, 0, 1);
        become("two the other way round", named(50, 99, 98), 50, 1, 0);
        become("0 and 99", named(50, 99, 0), 50, 1, 0);
        become("as small as can be", named(50, 0, 1, 2), 50, 0, 1, 2);
        Story first = new Story().add().name(0, 60).name(0, 50).classAt(0, 0).field(0, 2, 0)
                .member(0, 0, -1).member(0, 1, 0).code(1, GET, 3).entry(1, true);
        become("at the first place of a pool", first, 0, 50);
        become("at the last place of a pool", lastPlace(), 50, 0);
        become("with a gap", named(50, 3, 1, 0), 50, 2, 1, 0);
    }

    /** The field's NAME 60 at place 19 is meant by a NAME alike of another pool. */
    private static Story lastPlace() {
        return new Story().adds(2).classAt(0, 1).name(0, 50).name(0, 60).field(0, 0, 2).member(0, 1, 0)
                .names(1, 0, 19).name(1, 60).member(1, 19, -1).code(0, GET, 3).entry(0, true);
    }

    private static void leastNumbersRoundEntries() {
        Check.sentence("Terms", "the least numbers that are not names of entries and were not given yet");
        become("0 is an entry's", named(0, 99), 0, 1);
        become("1 is", named(1, 98, 99), 1, 0, 2);
        become("2 is", named(2, 97, 98, 99), 2, 0, 1, 3);
        become("0 and 1 are", named(0, 1, 99, 98).entry(1, true), 0, 1, 3, 2);
        become("0 and 2 are", named(0, 2, 99, 98).entry(1, true), 0, 2, 3, 1);
        become("1 and 2 are", named(1, 2, 99, 98).entry(1, true), 1, 2, 3, 0);
        become("1 was an entry's", named(1, 2, 99).entry(0, true).entry(1, true).shake().entry(1, false), 1, 0, 2);
        become("a name grows", named(0, 1, 2).entry(0, true), 0, 1, 2);
        become("behind all entries", named(0, 1, 2, 3).entry(1, true).entry(2, true), 0, 1, 2, 3);
        become("a small one grows past an entry's", named(1, 0, 2), 1, 0, 2);
    }

    private static void thirtyNames() {
        Check.sentence("Terms", "the least numbers (of thirty names)");
        ShakenTree t = FULL.shake().told();
        Check.due("the entry's", 99, t.memberAt(true, 0, 5));
        for (int m = 1; m < 30; m++) {
            Check.due("name of " + m, 29 - m, t.memberAt(true, m, 5));
        }
        Story low = thirtyEntriesFrom(0);
        Story high = thirtyEntriesFrom(70);
        for (int m = 0; m < 30; m++) {
            Check.due("entry from 0 on " + m, m, low.told().memberAt(true, m, 5));
            Check.due("entry from 70 on " + m, 70 + m, high.told().memberAt(true, m, 5));
        }
    }

    private static Story thirtyEntriesFrom(int first) {
        Story story = new Story().adds(2).names(0, first, 15).names(1, first + 15, 15);
        for (int m = 0; m < 30; m++) {
            story = story.member(m / 15, m % 15, 0).entry(m, true);
        }
        return story.shake();
    }

    private static void namesNotKept() {
        Check.sentence("Terms", "numbers of kept NAMEs (those of others take no number)");
        Story story = named(50, 60).names(0, 0, 3).member(0, 5, -1);
        become("NAMEs 0 .. 2 are not kept", story, 50, 0);
        become("a NAME with the number of one that is", named(50, 60).name(0, 60), 50, 0);
        become("an old shake's names are forgotten", named(0, 99).shake().entry(0, false).entry(1, true), 99);
        Story anew = named(0, 99).shake().clear().add().classAt(0, 0).names(0, 97, 2).field(0, 0, 2)
                .member(0, 1, 0).member(0, 2, -1).code(0, GET, 3).entry(0, true);
        become("an old shake's entries are forgotten", anew, 97, 0);
    }

    private static void sameEverywhere() {
        Check.sentence("Terms", "the same number everywhere for the same one");
        Story story = new Story().adds(2).classAt(0, 1).name(0, 80).name(0, 90).name(0, 91).name(0, 90)
                .field(0, 0, 2).method(0, 0, 4).field(0, 0, 3).member(0, 1, 0)
                .name(1, 91).name(1, 90).name(1, 90).member(1, 1, 0).member(1, 2, -1).member(1, 0, -1)
                .code(0, GET, 5, CALL, 6, GET, 7).entry(0, true);
        become("a method and a field of one name", story, 80, 0, 0, 1);
        ShakenTree t = story.shake().told();
        int[] due = {80, 0, 1, 0};
        for (int p = 0; p < 4; p++) {
            Check.due("NAME " + p + " of class 0", due[p], t.constantAt(true, 0, 1 + p, 1));
        }
        int[] other = {1, 0, 0};
        for (int p = 0; p < 3; p++) {
            Check.due("NAME " + p + " of class 1", other[p], t.constantAt(true, 1, p, 1));
        }
    }

    private static void entryNameOfOthers() {
        Check.sentence("Terms", "NAMES of entries stay; the other numbers .. (a member that bears an entry's name keeps it)");
        Story story = new Story().adds(2).classAt(0, 1).name(0, 80).name(0, 90).field(0, 0, 1).method(0, 0, 2)
                .member(0, 1, 0).name(1, 80).name(1, 90).member(1, 0, -1).member(1, 1, 0)
                .code(0, GET, 3, CALL, 4);
        become("a field with the entry's name", story.entry(0, true), 80, 80, 0);
        become("both names are of entries", story.entry(0, true).entry(2, true), 80, 80, 90);
        become("an entry that is called no more by others", story.entry(2, true), 90);
    }

    private static void entriesStayEntries() {
        Check.sentence("Terms", "Entries stay entries.");
        Story story = named(10, 20, 30).entry(2, true).shake();
        int[] due = {1, 0, 1};
        for (int m = 0; m < 3; m++) {
            Check.due("entry " + m, due[m], story.told().memberAt(true, m, 4));
        }
        Check.due("how many", 2, story.told().count(true, 2));
        Check.due("one that was called alone", 0, named(10, 20).shake().told().memberAt(true, 1, 4));
    }

    private static void shakenStays() {
        Check.sentence("Terms", "the SHAKEN one what was shaken last; it stays as it is");
        Story shaken = FULL.shake();
        Story[] later = {
            shaken.clear(), shaken.entry(0, false), shaken.entry(26, true), shaken.code(26, 10, 7),
            shaken.clear().adds(6).names(0, 0, 20).member(0, 0, 0).entry(0, true),
            shaken.then(t -> Check.thrownBy(t::add)), shaken.clear().then(t -> Check.thrownBy(t::shake)),
        };
        for (Story story : later) {
            ShakenTree t = story.told();
            Check.due("classes", 6, t.count(true, 0));
            Check.due("members", 30, t.count(true, 1));
            Check.due("entries", 1, t.count(true, 2));
            for (int m = 0; m < 30; m++) {
                Check.due("name of " + m, m == 0 ? 99 : 29 - m, t.memberAt(true, m, 5));
                Check.due("code of " + m, m % 5 == 0 ? 20 : 0, t.memberAt(true, m, 3));
            }
            for (int c = 0; c < 6; c++) {
                Check.due("pool " + c, 20, t.pool(true, c));
                Check.due("last of " + c, 100 * c + 5, t.constantAt(true, c, 19, 1));
            }
        }
    }

    private static void shakenLast() {
        Check.sentence("Terms", "the SHAKEN one what was shaken last (all of what was shaken before is gone)");
        Story small = new Story().add().number(0, 7).name(0, 42).member(0, 1, 2).code(0, PUSH, 0, RETURN, 0).entry(0, true).shake();
        Story after = FULL.shake().clear().add().number(0, 7).name(0, 42).member(0, 1, 2)
                .code(0, PUSH, 0, RETURN, 0).entry(0, true).shake();
        Check.same("a small one behind the full one", small, after);
        Check.noIndex("an old member", after, t -> t.memberAt(true, 1, 0));
        Check.noIndex("an old class", after, t -> t.pool(true, 1));
        Check.noIndex("an old constant", after, t -> t.constantAt(true, 0, 2, 0));
        Check.noIndex("an old instruction", after, t -> t.codeAt(true, 0, 2));
        Check.due("nothing of old is moved", -1, after.told().moved(1));
    }

    private static void doesTheSame() {
        Check.sentence("What it is", "the shaken program does the same as the whole one");
        for (Story story : new Story[] {FULL, chain().entry(2, true), constants().code(0, 4, 0, PUT, 5, GET, 5, RETURN, 0)}) {
            ShakenTree t = story.shake().told();
            for (int m = 0; m < t.count(false, 1); m++) {
                int old = m;
                int now = t.moved(m);
                if (now == -1 || t.memberAt(false, m, 2) == -1) {
                    continue;
                }
                int[] got = new int[2];
                String whole = Check.thrownBy(() -> got[0] = t.run(false, old, 3, -4));
                String small = Check.thrownBy(() -> got[1] = t.run(true, now, 3, -4));
                Check.due(m + " " + whole + " " + small, 1, whole.equals(small) && got[0] == got[1] ? 1 : 0);
            }
        }
    }
}
