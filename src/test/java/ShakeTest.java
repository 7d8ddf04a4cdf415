/** Promises 9 to 15: what shaking keeps, and how it numbers and names it. */
public final class ShakeTest {
    public static void main(String[] args) {
        refused();
        onlyWhatIsReached();
        constantsCloseUp();
        deadCodeCounts();
        classesCloseUp();
        otherNumbersStay();
        namesBecomeSmall();
        namesOfEntriesStay();
        sameNameEverywhere();
        twoNamesAlike();
        allEntries();
        circles();
        fieldsAreNotMethods();
        staysAsItIs();
        shakenAnew();
        movedOfOthers();
        wrongQuestions();
        Check.finish();
    }

    /** Code that answers the INT at a place. */
    private static void answer(ShakenTree t, int method, int place) {
        t.code(method, 0, place);
        t.code(method, 11, 0);
    }

    private static void pool(String which, ShakenTree t, int owner, int[]... want) {
        Check.due(which + " size", want.length, t.pool(true, owner));
        for (int p = 0; p < want.length && p < t.pool(true, owner); p++) {
            for (int what = 0; what < 3; what++) {
                Check.due(which + " " + p + " " + what, want[p][what], t.constantAt(true, owner, p, what));
            }
        }
    }

    private static int[] row(int... numbers) {
        return numbers;
    }

    private static void member(String which, ShakenTree t, int member, int... want) {
        for (int what = 0; what < 6; what++) {
            Check.due(which + " " + what, want[what], t.memberAt(true, member, what));
        }
    }

    private static void refused() {
        ShakenTree t = new ShakenTree();
        Check.state("nothing there", t::shake);
        t.add();
        t.constant(0, 1, 3, 0);
        t.constant(0, 0, 8, 0);
        t.member(0, 0, 0);
        t.member(0, 0, -1);
        Check.state("no entry", t::shake);
        t.entry(0, true);
        Check.due("an empty entry", 1, t.shake());
        answer(t, 0, 1);
        Check.due("shaken again", 1, t.shake());
        t.code(0, 0, 0);
        Check.state("not closed", t::shake);
        Check.due("the last one stays", 2, t.memberAt(true, 0, 3));
        Check.due("moved stays", 0, t.moved(0));
        t.entry(0, false);
        Check.state("neither", t::shake);
        Check.due("its entry stays", 1, t.count(true, 2));
    }

    /** Methods 0 (an entry) -> 3 -> field 1; 2 and field 4 are not reached, and 2 calls 0. */
    private static ShakenTree chain() {
        ShakenTree t = new ShakenTree();
        t.add();
        t.constant(0, 0, 100, 0);
        t.constant(0, 1, 60, 0);
        t.constant(0, 1, 61, 0);
        t.constant(0, 1, 62, 0);
        t.constant(0, 0, 200, 0);
        t.constant(0, 2, 0, 0);
        t.constant(0, 4, 5, 1);
        t.constant(0, 4, 5, 3);
        t.constant(0, 3, 5, 2);
        t.constant(0, 3, 5, 3);
        t.constant(0, 2, 0, 0);
        t.member(0, 1, 1);
        t.member(0, 2, -1);
        t.member(0, 2, 0);
        t.member(0, 3, 2);
        t.member(0, 3, -1);
        t.code(0, 4, 0);
        t.code(0, 0, 4);
        t.code(0, 3, 7);
        t.code(0, 11, 5);
        t.code(2, 0, 0);
        t.code(2, 3, 6);
        t.code(2, 1, 9);
        t.code(3, 4, 0);
        t.code(3, 2, 8);
        t.code(3, 1, 8);
        t.code(3, 4, 1);
        t.code(3, 6, 0);
        t.code(3, 11, 0);
        t.entry(0, true);
        return t;
    }

    private static void onlyWhatIsReached() {
        ShakenTree t = chain();
        Check.due("kept", 3, t.shake());
        Check.due("classes", 1, t.count(true, 0));
        Check.due("members", 3, t.count(true, 1));
        Check.due("entries", 1, t.count(true, 2));
        int[] moved = {0, 1, -1, 2, -1};
        for (int m = 0; m < 5; m++) {
            Check.due("moved " + m, moved[m], t.moved(m));
        }
        member("entry", t, 0, 0, 0, 1, 4, 1, 60);
        member("field", t, 1, 0, 1, -1, 0, 0, 0);
        member("called", t, 2, 0, 2, 2, 6, 0, 1);
        Check.due("runs the same", -188, t.run(true, 0, 12, 0));
        Check.due("as the whole", -188, t.run(false, 0, 12, 0));
    }

    private static void constantsCloseUp() {
        ShakenTree t = chain();
        t.shake();
        pool("pool", t, 0, row(1, 60, 0), row(1, 0, 0), row(1, 1, 0), row(0, 200, 0), row(2, 0, 0),
                row(4, 4, 2), row(3, 4, 1));
        int[] code = {4000, 3, 3005, 11005};
        for (int k = 0; k < code.length; k++) {
            Check.due("codeAt 0 " + k, code[k], t.codeAt(true, 0, k));
        }
        int[] called = {4000, 2006, 1006, 4001, 6000, 11000};
        for (int k = 0; k < called.length; k++) {
            Check.due("codeAt 2 " + k, called[k], t.codeAt(true, 2, k));
        }
        Check.due("the whole pool stays", 11, t.pool(false, 0));
        Check.due("the whole code stays", 3007, t.codeAt(false, 0, 2));
    }

    private static void deadCodeCounts() {
        ShakenTree t = new ShakenTree();
        t.add();
        t.constant(0, 1, 5, 0);
        t.constant(0, 1, 6, 0);
        t.constant(0, 2, 0, 0);
        t.constant(0, 4, 2, 1);
        t.constant(0, 0, 9, 0);
        t.member(0, 0, 0);
        t.member(0, 1, 0);
        t.code(0, 10, 0);
        t.code(0, 3, 3);
        t.code(0, 0, 4);
        t.entry(0, true);
        Check.due("what can't be come to is kept", 2, t.shake());
        Check.due("and its constants", 5, t.pool(true, 0));
    }

    /** Only classes 1, 3 and 4 have kept members; class 4 by a field alone. */
    private static void classesCloseUp() {
        ShakenTree t = new ShakenTree();
        for (int c = 0; c < 6; c++) {
            t.add();
        }
        t.constant(0, 1, 10, 0);
        t.member(0, 0, 0);
        t.constant(1, 2, 5, 0);
        t.constant(1, 2, 3, 0);
        t.constant(1, 1, 10, 0);
        t.constant(1, 1, 11, 0);
        t.constant(1, 4, 1, 3);
        t.member(1, 2, 0);
        t.code(1, 3, 4);
        t.code(1, 11, 0);
        t.constant(3, 1, 12, 0);
        t.constant(3, 1, 11, 0);
        t.constant(3, 2, 4, 0);
        t.constant(3, 3, 2, 0);
        t.member(3, 1, 0);
        t.code(2, 1, 3);
        t.code(2, 11, 0);
        t.constant(4, 0, 3, 0);
        t.constant(4, 1, 12, 0);
        t.member(4, 1, -1);
        t.entry(1, true);
        Check.due("kept", 3, t.shake());
        Check.due("classes", 3, t.count(true, 0));
        pool("class 1", t, 0, row(2, 1, 0), row(1, 10, 0), row(1, 0, 0), row(4, 0, 2));
        pool("class 3", t, 1, row(1, 1, 0), row(1, 0, 0), row(2, 2, 0), row(3, 2, 0));
        pool("class 4", t, 2, row(1, 1, 0));
        member("of class 1", t, 0, 0, 1, 0, 2, 1, 10);
        member("of class 3", t, 1, 1, 1, 0, 2, 0, 0);
        member("of class 4", t, 2, 2, 0, -1, 0, 0, 1);
        Check.due("it runs", 0, t.run(true, 0, 0, 0));
        Check.index("no fourth class", () -> t.pool(true, 3));
    }

    private static void otherNumbersStay() {
        ShakenTree t = new ShakenTree();
        t.add();
        t.constant(0, 0, 1, 0);
        t.constant(0, 0, 2, 0);
        t.constant(0, 1, 1, 0);
        t.member(0, 2, 2);
        int[] numbers = {1, -5, 99, 1, 2, 1, 2, 1, 0};
        for (int what = 4; what <= 12; what++) {
            t.code(0, what, numbers[what - 4]);
        }
        t.code(0, 0, 1);
        t.entry(0, true);
        t.shake();
        for (int what = 4; what <= 12; what++) {
            Check.due("number of " + what, 1000 * what + numbers[what - 4], t.codeAt(true, 0, what - 4));
        }
        Check.due("number of PUSH", 0, t.codeAt(true, 0, 9));
        Check.index("codeAt 10", () -> t.codeAt(true, 0, 10));
    }

    /** An entry with the first name that calls methods with the others. */
    private static ShakenTree named(int... names) {
        ShakenTree t = new ShakenTree();
        t.add();
        t.constant(0, 2, 0, 0);
        for (int k = 0; k < names.length; k++) {
            t.constant(0, 1, names[k], 0);
            t.member(0, 1 + k, 0);
        }
        for (int k = 1; k < names.length; k++) {
            t.code(0, 3, t.constant(0, 4, 0, 1 + k));
        }
        t.entry(0, true);
        return t;
    }

    private static void names(String which, ShakenTree t, int... want) {
        for (int m = 0; m < want.length; m++) {
            Check.due(which + " " + m, want[m], t.memberAt(true, m, 5));
        }
    }

    private static void namesBecomeSmall() {
        ShakenTree t = named(50, 99, 30, 70, 31);
        t.shake();
        names("from the least one on", t, 50, 3, 0, 2, 1);
        ShakenTree small = named(1, 0, 2, 3);
        small.shake();
        names("small ones", small, 1, 0, 2, 3);
        ShakenTree round = named(1, 5, 4, 3);
        round.shake();
        names("round the entry's", round, 1, 3, 2, 0);
        round.entry(0, false);
        round.entry(1, true);
        round.shake();
        round.entry(0, true);
        round.entry(1, false);
        round.shake();
        names("nothing is left of the shake before", round, 1, 3, 2, 0);
        round.clear();
        round.add();
        round.constant(0, 1, 9, 0);
        round.constant(0, 1, 8, 0);
        round.constant(0, 2, 0, 0);
        round.constant(0, 3, 2, 1);
        round.member(0, 0, 0);
        round.member(0, 1, -1);
        round.code(0, 1, 3);
        round.entry(0, true);
        round.shake();
        names("nor of its names", round, 9, 0);
    }

    private static void namesOfEntriesStay() {
        ShakenTree t = named(0, 9, 1, 8, 3);
        t.entry(2, true);
        t.entry(4, true);
        Check.due("kept", 5, t.shake());
        names("three entries", t, 0, 4, 1, 2, 3);
        Check.due("entries", 3, t.count(true, 2));
        ShakenTree moved = named(2, 9, 1, 8, 3);
        moved.entry(1, true);
        moved.entry(0, false);
        Check.due("kept", 1, moved.shake());
        names("another entry", moved, 9);
        Check.due("its pool", 1, moved.pool(true, 0));
    }

    private static void sameNameEverywhere() {
        ShakenTree t = new ShakenTree();
        t.add();
        t.add();
        t.constant(0, 1, 20, 0);
        t.constant(0, 1, 30, 0);
        t.constant(0, 2, 1, 0);
        t.constant(0, 3, 2, 0);
        t.constant(0, 3, 2, 1);
        t.member(0, 0, 0);
        t.constant(1, 1, 30, 0);
        t.constant(1, 1, 20, 0);
        t.member(1, 0, -1);
        t.member(1, 1, -1);
        t.code(0, 1, 3);
        t.code(0, 1, 4);
        t.entry(0, true);
        Check.due("kept", 3, t.shake());
        names("a field with an entry's name keeps it", t, 20, 0, 20);
        Check.due("NAME of class 0", 0, t.constantAt(true, 0, 1, 1));
        Check.due("NAME of class 1", 0, t.constantAt(true, 1, 0, 1));
    }

    /** Two NAMEs with one number: only the one that is used is kept, or both. */
    private static void twoNamesAlike() {
        ShakenTree t = new ShakenTree();
        t.add();
        t.constant(0, 1, 20, 0);
        t.constant(0, 1, 20, 0);
        t.constant(0, 1, 20, 0);
        t.constant(0, 2, 0, 0);
        t.constant(0, 3, 3, 2);
        t.member(0, 1, 0);
        t.member(0, 0, -1);
        t.entry(0, true);
        Check.due("one", 1, t.shake());
        Check.due("its pool", 1, t.pool(true, 0));
        t.code(0, 1, 4);
        Check.due("two", 2, t.shake());
        Check.due("all NAMEs", 5, t.pool(true, 0));
        Check.due("place of the method's", 1, t.memberAt(true, 0, 1));
        Check.due("place of the field's", 0, t.memberAt(true, 1, 1));
    }

    private static void allEntries() {
        ShakenTree t = new ShakenTree();
        int[] first = {99, 0, 98, 1, 50};
        for (int c = 0; c < 5; c++) {
            t.add();
            t.constant(c, 1, first[c], 0);
            t.member(c, 0, 0);
            t.entry(c, true);
        }
        Check.due("all entries", 5, t.shake());
        names("all stay", t, first);
        for (int c = 1; c < 5; c++) {
            t.entry(c, false);
        }
        Check.due("one entry", 1, t.shake());
        names("it stays", t, 99);
    }

    private static void circles() {
        ShakenTree t = new ShakenTree();
        t.add();
        t.constant(0, 2, 0, 0);
        for (int m = 0; m < 4; m++) {
            t.constant(0, 1, 10 + m, 0);
            t.constant(0, 4, 0, 1 + 2 * m);
            t.member(0, 1 + 2 * m, 0);
        }
        t.code(0, 3, 2);
        t.code(1, 3, 6);
        t.code(2, 3, 4);
        t.code(3, 3, 2);
        t.entry(2, true);
        Check.due("a circle of two", 2, t.shake());
        Check.due("moved 1", 0, t.moved(1));
        Check.due("moved 2", 1, t.moved(2));
        Check.state("it runs on", () -> t.run(true, 1, 0, 0));
        t.entry(0, true);
        t.entry(2, false);
        Check.due("itself alone", 1, t.shake());
        t.entry(3, true);
        Check.due("two entries", 2, t.shake());
        Check.due("moved 3", 1, t.moved(3));
    }

    /** A FIELD keeps the field with a name, not the method with that name. */
    private static void fieldsAreNotMethods() {
        ShakenTree t = new ShakenTree();
        t.add();
        t.constant(0, 1, 1, 0);
        t.constant(0, 1, 2, 0);
        t.constant(0, 2, 0, 0);
        t.constant(0, 3, 2, 1);
        t.constant(0, 4, 2, 1);
        t.member(0, 0, 0);
        t.member(0, 1, 0);
        t.member(0, 1, -1);
        t.code(0, 2, 3);
        t.entry(0, true);
        Check.due("entry and field", 2, t.shake());
        Check.due("the method goes", -1, t.moved(1));
        Check.due("the field stays", 1, t.moved(2));
        Check.due("the METHOD goes", 4, t.pool(true, 0));
        t.code(1, 3, 4);
        t.entry(1, true);
        t.entry(0, false);
        Check.due("the other way round", 1, t.shake());
        Check.due("the field goes", -1, t.moved(2));
    }

    private static void staysAsItIs() {
        ShakenTree t = chain();
        t.shake();
        t.code(0, 5, 0);
        t.entry(3, true);
        t.constant(0, 0, 5, 0);
        t.constant(0, 1, 5, 0);
        t.member(0, 12, 0);
        Check.due("members", 3, t.count(true, 1));
        Check.due("entries", 1, t.count(true, 2));
        Check.due("instructions", 4, t.memberAt(true, 0, 3));
        Check.due("pool", 7, t.pool(true, 0));
        Check.due("a later member was not there", -1, t.moved(5));
        t.clear();
        t.add();
        t.constant(0, 1, 77, 0);
        t.member(0, 0, -1);
        Check.due("it runs", -188, t.run(true, 0, 12, 0));
        Check.due("moved is as it was", 2, t.moved(3));
        Check.due("no number of now", 0, t.moved(0));
    }

    private static void shakenAnew() {
        ShakenTree t = chain();
        t.shake();
        t.clear();
        t.add();
        t.constant(0, 0, 5, 0);
        t.constant(0, 1, 33, 0);
        t.member(0, 1, 0);
        answer(t, 0, 0);
        t.entry(0, true);
        Check.due("one", 1, t.shake());
        Check.due("members", 1, t.count(true, 1));
        Check.due("it runs", 5, t.run(true, 0, 0, 0));
        pool("its pool", t, 0, row(0, 5, 0), row(1, 33, 0));
        member("it", t, 0, 0, 1, 0, 2, 1, 33);
        for (int m = 1; m < 30; m++) {
            Check.due("moved " + m, -1, t.moved(m));
        }
    }

    private static void movedOfOthers() {
        ShakenTree t = chain();
        t.shake();
        for (int odd : new int[] {Integer.MIN_VALUE, -1, 5, 29, 30, 31, Integer.MAX_VALUE}) {
            Check.due("moved " + odd, -1, t.moved(odd));
        }
    }

    private static void wrongQuestions() {
        ShakenTree t = chain();
        t.shake();
        Check.index("pool 1", () -> t.pool(true, 1));
        Check.index("pool -1", () -> t.pool(true, -1));
        Check.index("constantAt place", () -> t.constantAt(true, 0, 7, 9));
        Check.index("constantAt place -1", () -> t.constantAt(true, 0, -1, 9));
        Check.index("constantAt class", () -> t.constantAt(true, 1, 0, 9));
        Check.argument("constantAt what", () -> t.constantAt(true, 0, 0, 3));
        Check.argument("constantAt what -1", () -> t.constantAt(true, 0, 0, -1));
        Check.index("memberAt 3", () -> t.memberAt(true, 3, 9));
        Check.index("memberAt -1", () -> t.memberAt(true, -1, 0));
        Check.argument("memberAt what", () -> t.memberAt(true, 0, 6));
        Check.argument("memberAt what -1", () -> t.memberAt(true, 0, -1));
        Check.index("codeAt of a field", () -> t.codeAt(true, 1, 0));
        Check.index("codeAt of none", () -> t.codeAt(true, 3, 0));
        Check.index("codeAt behind", () -> t.codeAt(true, 0, 4));
        Check.index("codeAt before", () -> t.codeAt(true, 0, -1));
        Check.argument("count what", () -> t.count(true, 3));
    }
}
