import java.util.ArrayList;
import java.util.List;

/**
 * Calls that bring a new object to a state, kept so that they can be made again: the document says
 * nothing of an object after its 512th call, so a long look at one state needs several objects
 * alike. A story never changes: each call tells a longer one.
 */
final class Story {
    static final int MOST_CALLS = 512;

    /** One call. */
    interface Step {
        void on(ShakenTree tree);
    }

    private final List<Step> steps;

    Story() {
        this(new ArrayList<>());
    }

    private Story(List<Step> steps) {
        this.steps = steps;
    }

    Story then(Step step) {
        List<Step> longer = new ArrayList<>(steps);
        longer.add(step);
        return new Story(longer);
    }

    int calls() {
        return steps.size();
    }

    /** A new object with all calls made. */
    ShakenTree told() {
        if (steps.size() > MOST_CALLS) {
            throw new AssertionError("a story of " + steps.size() + " calls");
        }
        ShakenTree tree = new ShakenTree();
        for (Step step : steps) {
            step.on(tree);
        }
        return tree;
    }

    Story add() {
        return then(ShakenTree::add);
    }

    Story adds(int many) {
        Story longer = this;
        for (int k = 0; k < many; k++) {
            longer = longer.add();
        }
        return longer;
    }

    Story constant(int owner, int kind, int a, int b) {
        return then(t -> t.constant(owner, kind, a, b));
    }

    Story number(int owner, int n) {
        return constant(owner, 0, n, 0);
    }

    Story name(int owner, int n) {
        return constant(owner, 1, n, 0);
    }

    /** NAMEs with numbers from the first one on. */
    Story names(int owner, int first, int many) {
        Story longer = this;
        for (int k = 0; k < many; k++) {
            longer = longer.name(owner, first + k);
        }
        return longer;
    }

    Story classAt(int owner, int k) {
        return constant(owner, 2, k, 0);
    }

    Story field(int owner, int classPlace, int namePlace) {
        return constant(owner, 3, classPlace, namePlace);
    }

    Story method(int owner, int classPlace, int namePlace) {
        return constant(owner, 4, classPlace, namePlace);
    }

    Story member(int owner, int name, int arguments) {
        return then(t -> t.member(owner, name, arguments));
    }

    /** Instructions, each a what and a number. */
    Story code(int method, int... pairs) {
        Story longer = this;
        for (int k = 0; k < pairs.length; k += 2) {
            int what = pairs[k];
            int n = pairs[k + 1];
            longer = longer.then(t -> t.code(method, what, n));
        }
        return longer;
    }

    Story codes(int method, int many, int what, int n) {
        Story longer = this;
        for (int k = 0; k < many; k++) {
            longer = longer.code(method, what, n);
        }
        return longer;
    }

    Story entry(int method, boolean is) {
        return then(t -> t.entry(method, is));
    }

    Story clear() {
        return then(ShakenTree::clear);
    }

    Story shake() {
        return then(ShakenTree::shake);
    }

    /**
     * As full as a program can be in 512 calls, closed, and all of it kept when it is shaken: 6
     * classes with 20 constants and 5 members each. Of class c the members are 5 * c .. 5 * c + 4,
     * named 99 - number: methods with 1, 0 and 2 arguments and two fields; the first method has 20
     * instructions, with every constant that can be in one, the others none. Member 0 is the entry.
     */
    static Story full() {
        Story story = new Story().adds(6);
        for (int c = 0; c < 6; c++) {
            story = story.fullPool(c).fullMembers(c);
        }
        for (int c = 0; c < 6; c++) {
            story = story.fullCode(5 * c);
        }
        return story.entry(0, true);
    }

    /** 0 and 1 CLASSes, 2 .. 6 the members' NAMEs, 7 .. 11 what means them, 12 and 13 the next class's, 14 .. INTs. */
    private Story fullPool(int c) {
        int next = (c + 1) % 6;
        Story longer = classAt(c, c).classAt(c, next);
        for (int j = 0; j < 5; j++) {
            longer = longer.name(c, 99 - 5 * c - j);
        }
        for (int j = 0; j < 5; j++) {
            longer = longer.constant(c, j < 3 ? 4 : 3, 0, 2 + j);
        }
        longer = longer.name(c, 99 - 5 * next).method(c, 1, 12);
        for (int k = 0; k < 6; k++) {
            longer = longer.number(c, 100 * c + k);
        }
        return longer;
    }

    private Story fullMembers(int c) {
        return member(c, 2, 1).member(c, 3, 0).member(c, 4, 2).member(c, 5, -1).member(c, 6, -1);
    }

    private Story fullCode(int method) {
        return code(method, 0, 14, 0, 15, 0, 16, 0, 17, 2, 10, 2, 11, 1, 10, 1, 11, 8, 0, 3, 8)
                .code(method, 0, 18, 0, 19, 3, 9, 3, 7, 3, 13, 5, 0, 6, 0, 7, 0, 4, 0, 11, 0);
    }
}
