/** The boundary cases of building, promises 1 to 7, sentence by sentence, on both sides of each boundary. */
public final class EdgeBuildTest {
    private static final int LEAST = Integer.MIN_VALUE;
    private static final int MOST = Integer.MAX_VALUE;
    private static final Story FULL = Story.full();

    /** Class 0: INT 5, NAME 40, CLASS 0, FIELD 2 1, METHOD 2 1, NAME 41; field 0 and method 1 named 40, class 1 empty. */
    private static final Story MIXED = new Story().adds(2).number(0, 5).name(0, 40).classAt(0, 0)
            .field(0, 2, 1).method(0, 2, 1).name(0, 41).member(0, 1, -1).member(0, 1, 1)
            .code(1, 4, 0, 2, 3, 1, 3, 11, 0).entry(1, true).shake();

    public static void main(String[] args) {
        newObject();
        newClass();
        sixClasses();
        constantOfNoClass();
        constantKinds();
        intNumbers();
        nameNumbers();
        classNumbers();
        classesByThen();
        placesOfClassAndName();
        placesOfWrongKinds();
        secondNoMatter();
        twentyConstants();
        constantOrder();
        memberOfNoClass();
        memberWithoutName();
        memberArguments();
        memberNames();
        thirtyMembers();
        memberOrder();
        codeOfNoMethod();
        codeWhats();
        codeNumbers();
        twentyInstructions();
        codeOrder();
        entryOfNoMethod();
        entryFromNowOn();
        entryNotAnyMore();
        clearOfNothing();
        clearOfAll();
        roomAfterClear();
        Check.finish();
    }

    private static void newObject() {
        Check.sentence("Promise 1", "No classes; nothing shaken.");
        Story story = new Story();
        for (int what = 0; what < 3; what++) {
            Check.due("count(false, " + what + ")", 0, story.told().count(false, what));
            Check.due("count(true, " + what + ")", 0, story.told().count(true, what));
        }
        Check.due("fault()", -1, story.told().fault());
        Check.noState("shake()", story, ShakenTree::shake);
        for (int n : new int[] {0, -1, 29, 30, LEAST, MOST}) {
            Check.due("moved(" + n + ")", -1, story.told().moved(n));
        }
        for (boolean shaken : new boolean[] {false, true}) {
            Check.noIndex("pool", story, t -> t.pool(shaken, 0));
            Check.noIndex("constantAt", story, t -> t.constantAt(shaken, 0, 0, 0));
            Check.noIndex("memberAt", story, t -> t.memberAt(shaken, 0, 0));
            Check.noIndex("codeAt", story, t -> t.codeAt(shaken, 0, 0));
            Check.noIndex("run", story, t -> t.run(shaken, 0, 0, 0));
        }
        Check.same("two new objects", story, new Story().clear());
    }

    private static void newClass() {
        Check.sentence("Promise 2", "A new class without anything; answers its number.");
        for (int c = 0; c < 6; c++) {
            Story before = new Story().adds(c);
            Check.due("add", c, before.told().add());
            ShakenTree t = before.add().told();
            Check.due("classes", c + 1, t.count(false, 0));
            Check.due("its pool", 0, t.pool(false, c));
            Check.due("members", 0, t.count(false, 1));
        }
    }

    private static void sixClasses() {
        Check.sentence("Promise 2", "IllegalStateException when there are 6.");
        Check.due("the sixth", 5, new Story().adds(5).told().add());
        Check.noState("a seventh", new Story().adds(6), ShakenTree::add);
        Check.noState("a seventh of the full program", FULL, ShakenTree::add);
        Check.noState("an eighth", new Story().adds(6).then(t -> Check.thrownBy(t::add)), ShakenTree::add);
    }

    private static void constantOfNoClass() {
        Check.sentence("Promise 3", "IndexOutOfBoundsException when there is no such class");
        for (int classes = 0; classes <= 6; classes++) {
            Story story = new Story().adds(classes);
            for (int owner : new int[] {LEAST, -1, classes, classes + 1, MOST}) {
                for (int kind = 0; kind < 3; kind++) {
                    int k = kind;
                    Check.noIndex("constant in " + owner + " of " + classes, story, t -> t.constant(owner, k, 0, 0));
                }
            }
            for (int owner = 0; owner < classes; owner++) {
                Check.due("constant in " + owner + " of " + classes, 0, story.told().constant(owner, 0, 0, 0));
            }
        }
    }

    private static void constantKinds() {
        Check.sentence("Promise 3", "IllegalArgumentException when kind .. is none as said");
        Check.due("kind 0", 6, MIXED.told().constant(0, 0, 2, 1));
        Check.due("kind 4", 6, MIXED.told().constant(0, 4, 2, 1));
        for (int kind : new int[] {LEAST, -1, 5, 6, MOST}) {
            Check.noArgument("kind " + kind, MIXED, t -> t.constant(0, kind, 2, 1));
            Check.noArgument("kind " + kind + " with 0 0", MIXED, t -> t.constant(0, kind, 0, 0));
        }
    }

    private static void intNumbers() {
        Check.sentence("Terms", "INT n (any)");
        for (int n : new int[] {LEAST, -1, 0, 100, MOST}) {
            Check.due("INT " + n, 6, MIXED.told().constant(0, 0, n, 0));
            Check.due("its number", n, MIXED.number(0, n).told().constantAt(false, 0, 6, 1));
        }
    }

    private static void nameNumbers() {
        Check.sentence("Terms", "NAME n (n 0 .. 99)");
        for (int n : new int[] {0, 1, 98, 99}) {
            Check.due("NAME " + n, 6, MIXED.told().constant(0, 1, n, 0));
            Check.due("its number", n, MIXED.name(0, n).told().constantAt(false, 0, 6, 1));
        }
        for (int n : new int[] {LEAST, -1, 100, 101, MOST}) {
            Check.noArgument("NAME " + n, MIXED, t -> t.constant(0, 1, n, 0));
        }
    }

    private static void classNumbers() {
        Check.sentence("Terms", "CLASS k (a class)");
        for (int classes = 1; classes <= 6; classes++) {
            Story story = new Story().adds(classes);
            Check.due("CLASS 0 of " + classes, 0, story.told().constant(0, 2, 0, 0));
            int last = classes - 1;
            Check.due("CLASS " + last + " of " + classes, 0, story.told().constant(0, 2, last, 0));
            for (int k : new int[] {LEAST, -1, classes, classes + 1, MOST}) {
                Check.noArgument("CLASS " + k + " of " + classes, story, t -> t.constant(0, 2, k, 0));
            }
        }
    }

    private static void classesByThen() {
        Check.sentence("Promise 3", "a CLASS may be of any class that there is by then");
        Story one = new Story().add().name(0, 3);
        Check.noArgument("CLASS 1 before it is there", one, t -> t.constant(0, 2, 1, 0));
        Check.due("CLASS 1 when it is", 1, one.add().told().constant(0, 2, 1, 0));
        Check.due("CLASS 0 in class 1", 0, one.add().told().constant(1, 2, 0, 0));
        Check.due("its own class", 0, one.add().told().constant(1, 2, 1, 0));
        Check.noArgument("CLASS 1 when it has gone", one.add().clear().add(), t -> t.constant(0, 2, 1, 0));
    }

    private static void placesOfClassAndName() {
        Check.sentence("Terms", "FIELD c n and METHOD c n, with c and n places of a CLASS and a NAME in the same pool");
        Story classFirst = new Story().adds(2).classAt(0, 1).name(0, 9);
        Story nameFirst = new Story().adds(2).name(0, 9).classAt(0, 1);
        Story late = new Story().adds(2).names(0, 0, 17).classAt(0, 0).name(0, 99);
        for (int kind = 3; kind <= 4; kind++) {
            int k = kind;
            Check.due("places 0 and 1", 2, classFirst.told().constant(0, k, 0, 1));
            Check.due("places 1 and 0", 2, nameFirst.told().constant(0, k, 1, 0));
            Check.due("the last two places", 19, late.told().constant(0, k, 17, 18));
            Check.due("the last and the first", 19, late.told().constant(0, k, 17, 0));
            for (int place : new int[] {LEAST, -1, 2, 3, 19, 20, MOST}) {
                Check.noArgument("CLASS at " + place, classFirst, t -> t.constant(0, k, place, 1));
                Check.noArgument("NAME at " + place, classFirst, t -> t.constant(0, k, 0, place));
            }
            Check.noArgument("changed round", classFirst, t -> t.constant(0, k, 1, 0));
            Check.noArgument("places of another pool", classFirst, t -> t.constant(1, k, 0, 1));
            Check.noArgument("the NAME in another pool", classFirst.classAt(1, 0), t -> t.constant(1, k, 0, 1));
            Check.noArgument("the CLASS in another pool", classFirst.names(1, 0, 2), t -> t.constant(1, k, 0, 1));
        }
    }

    private static void placesOfWrongKinds() {
        Check.sentence("Promise 3", "IllegalArgumentException when .. a or b is none as said");
        int classPlace = 2;
        int[] namePlaces = {1, 5};
        for (int kind = 3; kind <= 4; kind++) {
            int k = kind;
            for (int place : new int[] {0, 1, 3, 4, 5}) {
                Check.noArgument("no CLASS at " + place, MIXED, t -> t.constant(0, k, place, 1));
            }
            for (int place : new int[] {0, 2, 3, 4}) {
                Check.noArgument("no NAME at " + place, MIXED, t -> t.constant(0, k, classPlace, place));
            }
            for (int place : namePlaces) {
                Check.due("a NAME at " + place, 6, MIXED.told().constant(0, k, classPlace, place));
            }
        }
    }

    private static void secondNoMatter() {
        Check.sentence("Promise 3", "b is no matter for others");
        for (int kind = 0; kind < 3; kind++) {
            for (int b : new int[] {LEAST, -1, 1, 100, MOST}) {
                Check.due("kind " + kind + " with b " + b, 6, MIXED.told().constant(0, kind, 1, b));
                ShakenTree t = MIXED.constant(0, kind, 1, b).told();
                Check.due("its first number", 1, t.constantAt(false, 0, 6, 1));
                Check.due("its second number", 0, t.constantAt(false, 0, 6, 2));
            }
        }
    }

    private static void twentyConstants() {
        Check.sentence("Promise 3", "IllegalStateException when there are 20.");
        Story most = MIXED.names(0, 50, 13);
        Story all = MIXED.names(0, 50, 14);
        int[] first = {LEAST, 99, 1, 2, 2};
        for (int kind = 0; kind <= 4; kind++) {
            int k = kind;
            Check.due("a 20th of kind " + k, 19, most.told().constant(0, k, first[k], 1));
            Check.noState("a 21st of kind " + k, all, t -> t.constant(0, k, first[k], 1));
        }
        Check.due("another class has room", 0, all.told().constant(1, 0, 1, 0));
        Check.due("and for 20", 19, all.names(1, 10, 19).told().constant(1, 0, 1, 0));
        Check.noState("not for 21", all.names(1, 10, 20), t -> t.constant(1, 0, 1, 0));
        for (int c = 0; c < 6; c++) {
            int owner = c;
            Check.noState("all classes are full: " + c, FULL, t -> t.constant(owner, 1, 0, 0));
        }
    }

    private static void constantOrder() {
        Check.sentence("Terms", "where several exceptions that a call names fit, the one named first is thrown (constant)");
        for (int owner : new int[] {-1, 6}) {
            Check.noIndex("no class and no kind", FULL, t -> t.constant(owner, 5, 0, 0));
            Check.noIndex("no class and no NAME", FULL, t -> t.constant(owner, 1, 100, 0));
            Check.noIndex("no class and no CLASS", FULL, t -> t.constant(owner, 2, 6, 0));
            Check.noIndex("no class and no FIELD", FULL, t -> t.constant(owner, 3, -1, -1));
        }
        Check.noArgument("no kind and no room", FULL, t -> t.constant(0, 5, 0, 0));
        Check.noArgument("kind -1 and no room", FULL, t -> t.constant(0, -1, 0, 0));
        Check.noArgument("NAME 100 and no room", FULL, t -> t.constant(0, 1, 100, 0));
        Check.noArgument("CLASS 6 and no room", FULL, t -> t.constant(0, 2, 6, 0));
        Check.noArgument("FIELD 1 20 and no room", FULL, t -> t.constant(0, 3, 1, 20));
        Check.noArgument("METHOD 20 2 and no room", FULL, t -> t.constant(0, 4, 20, 2));
    }

    private static void memberOfNoClass() {
        Check.sentence("Promise 4", "IndexOutOfBoundsException when there is no such class");
        for (int classes = 0; classes <= 6; classes++) {
            Story story = new Story().adds(classes);
            for (int owner : new int[] {LEAST, -1, classes, classes + 1, MOST}) {
                Check.noIndex("member in " + owner + " of " + classes, story, t -> t.member(owner, 0, 0));
            }
            for (int owner = 0; owner < classes; owner++) {
                Check.due("member in " + owner, 0, story.name(owner, 9).told().member(owner, 0, 0));
            }
        }
    }

    private static void memberWithoutName() {
        Check.sentence("Promise 4", "IllegalArgumentException when there is no NAME at that place");
        for (int arguments = -1; arguments <= 2; arguments++) {
            int n = arguments;
            for (int place : new int[] {LEAST, -1, 0, 2, 3, 4, 6, 19, 20, MOST}) {
                Check.noArgument("no NAME at " + place, MIXED, t -> t.member(0, place, n));
            }
            Check.noArgument("an empty pool", MIXED, t -> t.member(1, 0, n));
            Check.noArgument("a NAME of another pool", MIXED.number(1, 0).number(1, 0), t -> t.member(1, 1, n));
            Check.due("a NAME at the last place", 2, MIXED.told().member(0, 5, n));
            Check.due("a NAME at 0", 2, MIXED.name(1, 40).told().member(1, 0, n));
            Check.due("a NAME at 19", 0, new Story().add().names(0, 80, 20).told().member(0, 19, n));
        }
    }

    private static void memberArguments() {
        Check.sentence("Promise 4", "IllegalArgumentException when .. arguments is not -1 .. 2");
        for (int arguments = -1; arguments <= 2; arguments++) {
            int n = arguments;
            Check.due("arguments " + n, 2, MIXED.told().member(0, 5, n));
            Check.due("it has so many", n, MIXED.member(0, 5, n).told().memberAt(false, 2, 2));
        }
        for (int arguments : new int[] {LEAST, -3, -2, 3, 4, MOST}) {
            Check.noArgument("arguments " + arguments, MIXED, t -> t.member(0, 5, arguments));
        }
    }

    private static void memberNames() {
        Check.sentence("Promise 4", "IllegalArgumentException when .. such a member has that name");
        for (int name : new int[] {0, 7, 99}) {
            Story names = new Story().adds(2).name(0, name).name(0, name).name(1, name);
            Story field = names.member(0, 0, -1);
            Check.noArgument("two fields", field, t -> t.member(0, 0, -1));
            Check.noArgument("two fields by two NAMEs", field, t -> t.member(0, 1, -1));
            for (int arguments = 0; arguments <= 2; arguments++) {
                int n = arguments;
                Story method = names.member(0, 1, n);
                for (int k = 0; k <= 2; k++) {
                    int other = k;
                    Check.noArgument("two methods", method, t -> t.member(0, 1, other));
                    Check.noArgument("two methods by two NAMEs", method, t -> t.member(0, 0, other));
                    Check.due("a method elsewhere", 1, method.told().member(1, 0, other));
                }
                Check.due("a method beside a field", 1, field.told().member(0, 0, n));
                Check.due("a field beside a method", 1, method.told().member(0, 0, -1));
            }
            Check.due("a field elsewhere", 1, field.told().member(1, 0, -1));
            Check.due("another name", 1, field.name(0, 50).told().member(0, 2, -1));
        }
    }

    private static void thirtyMembers() {
        Check.sentence("Promise 4", "IllegalStateException when there are 30.");
        Story most = new Story().adds(2).names(0, 0, 20).names(1, 0, 20);
        for (int m = 0; m < 29; m++) {
            most = most.member(m % 3 == 0 ? 1 : 0, m / 2, m % 2 - 1);
        }
        for (int arguments = -1; arguments <= 2; arguments++) {
            int n = arguments;
            Check.due("a 30th", 29, most.told().member(0, 16, n));
            Story all = most.member(0, 16, n);
            Check.due("members", 30, all.told().count(false, 1));
            Check.noState("a 31st", all, t -> t.member(0, 17, n));
            Check.noState("a 31st in another class", all, t -> t.member(1, 19, n));
            Check.noState("a 31st in an empty class", all.add().name(2, 0), t -> t.member(2, 0, n));
            Check.noState("a 31st in the full program", FULL, t -> t.member(3, 12, n));
        }
    }

    private static void memberOrder() {
        Check.sentence("Terms", "where several exceptions that a call names fit, the one named first is thrown (member)");
        for (int owner : new int[] {-1, 6}) {
            Check.noIndex("no class and no NAME", FULL, t -> t.member(owner, 20, 0));
            Check.noIndex("no class and arguments 3", FULL, t -> t.member(owner, 12, 3));
            Check.noIndex("no class and no room", FULL, t -> t.member(owner, 12, 0));
        }
        Check.noArgument("no NAME and no room", FULL, t -> t.member(0, 0, 0));
        Check.noArgument("no place and no room", FULL, t -> t.member(0, 20, 0));
        Check.noArgument("arguments 3 and no room", FULL, t -> t.member(0, 12, 3));
        Check.noArgument("arguments -2 and no room", FULL, t -> t.member(0, 12, -2));
        Check.noArgument("a field's name and no room", FULL, t -> t.member(0, 5, -1));
        Check.noArgument("a method's name and no room", FULL, t -> t.member(0, 2, 0));
        Check.noState("no room alone", FULL, t -> t.member(0, 5, 0));
    }

    private static void codeOfNoMethod() {
        Check.sentence("Promise 5", "IndexOutOfBoundsException when there is no such method");
        for (int method : new int[] {LEAST, -1, 0, 2, 29, 30, MOST}) {
            Check.noIndex("code of " + method, MIXED, t -> t.code(method, 5, 0));
        }
        Check.noIndex("code of nothing", new Story().add(), t -> t.code(0, 5, 0));
        Check.noIndex("code of a field, the last one", FULL, t -> t.code(29, 5, 0));
        Check.noIndex("code of 30", FULL, t -> t.code(30, 5, 0));
        Check.due("code of the last method", 0, FULL.told().code(27, 5, 0));
        Check.due("code of a method at 29", 0, thirtyMethods().told().code(29, 5, 0));
        Check.due("code of a method at 0", 0, thirtyMethods().told().code(0, 5, 0));
        Check.noIndex("code of 30, all methods", thirtyMethods(), t -> t.code(30, 5, 0));
    }

    private static Story thirtyMethods() {
        Story story = new Story().adds(2).names(0, 0, 15).names(1, 0, 15);
        for (int m = 0; m < 30; m++) {
            story = story.member(m % 2, m / 2, m % 3);
        }
        return story;
    }

    private static void codeWhats() {
        Check.sentence("Promise 5", "IllegalArgumentException when what is not 0 .. 12");
        for (int what = 0; what <= 12; what++) {
            Check.due("what " + what, 4, MIXED.told().code(1, what, 0));
            Check.due("it is there", 1000 * what, MIXED.code(1, what, 0).told().codeAt(false, 1, 4));
        }
        for (int what : new int[] {LEAST, -2, -1, 13, 14, MOST}) {
            Check.noArgument("what " + what, MIXED, t -> t.code(1, what, 0));
        }
    }

    private static void codeNumbers() {
        Check.sentence("Promise 5", "a number, which may be any");
        for (int what = 0; what <= 12; what++) {
            for (int n : new int[] {LEAST, -1000, -1, 0, 20, 999, 1000, MOST}) {
                Check.due(what + " with " + n, 4, MIXED.told().code(1, what, n));
                Check.due("its number", 1000 * what + n, MIXED.code(1, what, n).told().codeAt(false, 1, 4));
            }
        }
    }

    private static void twentyInstructions() {
        Check.sentence("Promise 5", "IllegalStateException when it has 20.");
        Story two = MIXED.member(0, 5, 0);
        Story most = two.codes(2, 19, 5, 0);
        Story all = two.codes(2, 20, 5, 0);
        for (int what = 0; what <= 12; what++) {
            int w = what;
            Check.due("a 20th " + w, 19, most.told().code(2, w, 0));
            Check.noState("a 21st " + w, all, t -> t.code(2, w, 0));
        }
        Check.due("how many", 20, all.told().memberAt(false, 2, 3));
        Check.due("another method has room", 4, all.told().code(1, 5, 0));
        Check.due("and for 20", 19, all.codes(1, 15, 5, 0).told().code(1, 5, 0));
        Check.noState("not for 21", all.codes(1, 16, 5, 0), t -> t.code(1, 5, 0));
        Check.noState("of the full program", FULL, t -> t.code(25, 11, 0));
    }

    private static void codeOrder() {
        Check.sentence("Terms", "where several exceptions that a call names fit, the one named first is thrown (code)");
        Check.noIndex("no method and what 13", FULL, t -> t.code(30, 13, 0));
        Check.noIndex("no method and what -1", FULL, t -> t.code(-1, -1, 0));
        Check.noIndex("a field and what 13", FULL, t -> t.code(3, 13, 0));
        Check.noArgument("what 13 and no room", FULL, t -> t.code(0, 13, 0));
        Check.noArgument("what -1 and no room", FULL, t -> t.code(0, -1, 0));
    }

    private static void entryOfNoMethod() {
        Check.sentence("Promise 6", "IndexOutOfBoundsException when there is no such method.");
        for (boolean is : new boolean[] {false, true}) {
            for (int method : new int[] {LEAST, -1, 0, 2, 29, 30, MOST}) {
                Check.noIndex("entry " + method, MIXED, t -> t.entry(method, is));
            }
            Check.noIndex("entry of nothing", new Story().add(), t -> t.entry(0, is));
            Check.noIndex("a field at 29", FULL, t -> t.entry(29, is));
            Check.noIndex("entry 30", FULL, t -> t.entry(30, is));
            Check.noIndex("entry 30, all methods", thirtyMethods(), t -> t.entry(30, is));
        }
    }

    private static void entryFromNowOn() {
        Check.sentence("Promise 6", "A method is an entry from now on");
        Story story = thirtyMethods();
        for (int m : new int[] {0, 29}) {
            Check.due("entry " + m, 1, story.entry(m, true).told().memberAt(false, m, 4));
            Check.due("entries", 1, story.entry(m, true).told().count(false, 2));
            Check.same("twice is once", story.entry(m, true), story.entry(m, true).entry(m, true));
        }
        for (int m = 0; m < 30; m++) {
            Check.due("entries before " + m, m, story.told().count(false, 2));
            story = story.entry(m, true);
        }
        Check.due("all are entries", 30, story.told().count(false, 2));
    }

    private static void entryNotAnyMore() {
        Check.sentence("Promise 6", "or not any more");
        Story story = thirtyMethods();
        for (int m : new int[] {0, 29}) {
            Check.same("it never was one", story, story.entry(m, false));
            Check.same("it was one", story, story.entry(m, true).entry(m, false));
            Check.same("twice is once", story, story.entry(m, true).entry(m, false).entry(m, false));
        }
        Check.due("the other one stays", 1, story.entry(0, true).entry(29, true).entry(29, false).told().memberAt(false, 0, 4));
    }

    private static void clearOfNothing() {
        Check.sentence("Promise 7", "All classes of the whole program go (there are none).");
        Check.same("a new object", new Story(), new Story().clear());
        Check.same("twice", new Story(), new Story().clear().clear());
        Check.same("after the classes went", new Story(), new Story().adds(6).clear().clear());
    }

    private static void clearOfAll() {
        Check.sentence("Promise 7", "All classes of the whole program go.");
        Check.same("the full program", new Story(), FULL.clear());
        Check.same("six classes", new Story(), new Story().adds(6).clear());
        ShakenTree t = FULL.clear().told();
        for (int what = 0; what < 3; what++) {
            Check.due("count " + what, 0, t.count(false, what));
        }
        Check.due("fault", -1, t.fault());
        Check.noIndex("pool 0", FULL.clear(), s -> s.pool(false, 0));
        Check.noIndex("member 0", FULL.clear(), s -> s.memberAt(false, 0, 0));
        Check.noIndex("run 0", FULL.clear(), s -> s.run(false, 0, 0, 0));
        Check.noState("shake", FULL.clear(), ShakenTree::shake);
        Check.due("an unsound program goes too", -1, MIXED.code(1, 10, 99).clear().told().fault());
    }

    private static void roomAfterClear() {
        Check.sentence("Promise 7", "All classes of the whole program go (so there is room for all of them again).");
        Check.due("the sixth class", 5, FULL.clear().adds(5).told().add());
        Check.noState("the seventh", FULL.clear().adds(6), ShakenTree::add);
        Story names = FULL.clear().add().names(0, 0, 19);
        Check.due("the 20th constant", 19, names.told().constant(0, 1, 19, 0));
        Check.noState("the 21st", names.name(0, 19), t -> t.constant(0, 1, 20, 0));
        Check.due("the first member", 0, names.told().member(0, 0, 0));
        Story method = names.member(0, 0, 0);
        Check.due("it has no instruction", 0, method.told().memberAt(false, 0, 3));
        Check.due("it is no entry", 0, method.told().memberAt(false, 0, 4));
        Check.due("its first instruction", 0, method.told().code(0, 5, 0));
        Check.noIndex("no old member", method, t -> t.memberAt(false, 1, 0));
        Check.noIndex("no old method", method, t -> t.code(5, 5, 0));
        Check.due("its 20th instruction", 19, method.codes(0, 19, 5, 0).told().code(0, 5, 0));
        Check.noState("its 21st", method.codes(0, 20, 5, 0), t -> t.code(0, 5, 0));
        Story members = names;
        for (int m = 0; m < 30; m++) {
            Check.due("member " + m, m, members.told().member(0, m / 2, m % 2 - 1));
            members = members.member(0, m / 2, m % 2 - 1);
        }
        Check.noState("the 31st member", members, t -> t.member(0, 16, 0));
    }
}
