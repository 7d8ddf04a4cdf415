import java.util.Map;
import java.util.TreeMap;
import java.util.function.IntSupplier;

/**
 * Long runs of made-up calls on a ShakenTree and its Twin, which must answer alike; and after each
 * shake, every kept method must do the same in both programs. The runs are the same every time.
 */
public final class TwinTest {
    private static final int OBJECTS = 6000;

    private long seed;
    /** Whether this run fills the program with names and members, and never clears it. */
    private boolean filling;
    private ShakenTree tree;
    private Twin twin;
    /** How many calls the tree has had: what it answers to a 513th is free. */
    private int calls;
    private final Map<String, Integer> seen = new TreeMap<>();
    private int wrong = 0;

    public static void main(String[] args) {
        TwinTest test = new TwinTest();
        for (int run = 0; run < OBJECTS && test.wrong < 20; run++) {
            test.runOf(run);
        }
        System.out.println(test.seen);
        Check.due("answers that differ", 0, test.wrong);
        for (String must : new String[] {"shake answers", "run answers", "run ArithmeticException",
                "run UnsupportedOperationException", "run IllegalStateException", "run IllegalArgumentException",
                "same answers", "same IllegalStateException", "member IllegalStateException",
                "constant IllegalStateException", "code IllegalStateException", "add IllegalStateException"}) {
            Check.due("runs came to: " + must, 1, test.seen.getOrDefault(must, 0) > 0 ? 1 : 0);
        }
        Check.finish();
    }

    private void runOf(int run) {
        seed = run * 7919L + 17;
        filling = run % 4 == 0;
        tree = new ShakenTree();
        twin = new Twin();
        calls = 0;
        int start = below(40) + 10;
        while (calls < Story.MOST_CALLS && wrong < 20) {
            if (calls < start) {
                build();
            } else {
                any();
            }
        }
    }

    /** A number from 0 to bound - 1, from a small generator of its own. */
    private int below(int bound) {
        seed = seed * 6364136223846793005L + 1442695040888963407L;
        return (int) ((seed >>> 33) % bound);
    }

    /** Mostly a number that is one, now and then one beside. */
    private int about(int bound) {
        return below(12) == 0 ? below(bound + 4) - 2 : bound <= 0 ? 0 : below(bound);
    }

    private int someInt() {
        int[] odd = {Integer.MIN_VALUE, Integer.MAX_VALUE, -1, 100000};
        return below(6) == 0 ? odd[below(4)] : below(7) - 3;
    }

    private void alike(String call, IntSupplier mine, IntSupplier theirs) {
        if (calls == Story.MOST_CALLS) {
            return;
        }
        calls++;
        String got = answer(mine);
        String want = answer(theirs);
        String kind = got.startsWith("answers") ? "answers" : got;
        seen.merge(call.substring(0, call.indexOf('(')) + " " + kind, 1, Integer::sum);
        if (!got.equals(want)) {
            wrong++;
            System.out.println(call + " " + got + ", its twin " + want);
        }
    }

    private static String answer(IntSupplier call) {
        try {
            return "answers " + call.getAsInt();
        } catch (RuntimeException e) {
            return e.getClass().getSimpleName();
        }
    }

    private void any() {
        switch (below(10)) {
            case 0, 1, 2, 3 -> build();
            case 4 -> code();
            case 5 -> ask();
            case 6 -> shake();
            case 7, 8 -> run();
            default -> seldom();
        }
    }

    private void build() {
        int dice = below(20);
        if (dice == 0 || twin.whole.pools.isEmpty()) {
            alike("add()", () -> tree.add(), () -> twin.add());
        } else if (dice < 9) {
            constant();
        } else if (dice < (filling ? 16 : 13)) {
            int c = about(twin.whole.pools.size());
            int name = placeOf(c, 1);
            int arguments = below(15) == 0 ? below(6) - 2 : below(4) - 1;
            alike("member(" + c + ", " + name + ", " + arguments + ")",
                    () -> tree.member(c, name, arguments), () -> twin.member(c, name, arguments));
        } else {
            code();
        }
    }

    private void constant() {
        int c = about(twin.whole.pools.size());
        int kind = filling && below(2) == 0 ? 1 : about(5);
        int a = switch (kind) {
            case 1 -> below(10) == 0 ? about(100) : below(12) * 8;
            case 2 -> about(twin.whole.pools.size());
            case 3, 4 -> placeOf(c, 2);
            default -> someInt();
        };
        int b = kind >= 3 ? placeOf(c, 1) : someInt();
        alike("constant(" + c + ", " + kind + ", " + a + ", " + b + ")",
                () -> tree.constant(c, kind, a, b), () -> twin.constant(c, kind, a, b));
    }

    /** Mostly the place of a constant of a kind, if the class has one. */
    private int placeOf(int owner, int kind) {
        if (owner < 0 || owner >= twin.whole.pools.size() || below(40) == 0) {
            return about(20);
        }
        int size = twin.whole.pools.get(owner).size();
        for (int tries = 0; tries < 40; tries++) {
            int place = below(size + 1);
            if (twin.whole.at(owner, place).kind() == kind) {
                return place;
            }
        }
        return about(size);
    }

    /** Mostly an instruction that leaves the program closed. */
    private void code() {
        int m = someMethod(twin.whole);
        int what = below(30) == 0 ? below(17) - 2 : likely(m);
        int n = below(9);
        for (int tries = 0; tries < 40 && twin.whole.method(m); tries++) {
            Twin.Part p = twin.whole.parts.get(m);
            if (twin.whole.sound(p, new Twin.Step(what, n)) || below(200) == 0) {
                break;
            }
            n = what <= 3 ? placeOf(p.owner, what == 0 ? 0 : what == 3 ? 4 : 3) : below(p.steps.size() + 2);
            what = tries % 10 == 9 ? likely(m) : what;
        }
        int w = what;
        int number = n;
        alike("code(" + m + ", " + w + ", " + number + ")", () -> tree.code(m, w, number), () -> twin.code(m, w, number));
    }

    /** Mostly an instruction for which the stack has enough, if all were run one behind another. */
    private int likely(int m) {
        if (!twin.whole.method(m) || below(8) == 0) {
            return below(13);
        }
        int height = 0;
        for (Twin.Step s : twin.whole.parts.get(m).steps) {
            boolean pushes = s.what() <= 4 && s.what() != 2;
            height = Math.max(0, height + (pushes ? 1 : s.what() == 10 ? 0 : -1));
        }
        int[] pushing = {0, 1, 3, 3, 4, 4};
        int[] popping = {2, 5, 6, 7, 8, 9, 11, 12};
        return height >= 2 ? popping[below(7)] : height == 1 && below(3) == 0 ? 11 : pushing[below(6)];
    }

    private int someMethod(Twin.Whole program) {
        int size = program.parts.size();
        for (int tries = 0; tries < 10; tries++) {
            int m = about(size);
            if (program.method(m)) {
                return m;
            }
        }
        return about(size);
    }

    private void ask() {
        boolean small = below(2) == 0;
        Twin.Whole program = small ? twin.shaken : twin.whole;
        int c = about(program.pools.size());
        int m = about(program.parts.size());
        int place = about(20);
        switch (below(7)) {
            case 0 -> alike("fault()", () -> tree.fault(), () -> twin.fault());
            case 1 -> {
                int what = about(3);
                alike("count(" + what + ")", () -> tree.count(small, what), () -> twin.count(small, what));
            }
            case 2 -> alike("pool(" + c + ")", () -> tree.pool(small, c), () -> twin.pool(small, c));
            case 3 -> {
                int what = about(3);
                alike("constantAt(" + c + ", " + place + ", " + what + ")",
                        () -> tree.constantAt(small, c, place, what), () -> twin.constantAt(small, c, place, what));
            }
            case 4 -> {
                int what = about(6);
                alike("memberAt(" + m + ", " + what + ")", () -> tree.memberAt(small, m, what), () -> twin.memberAt(small, m, what));
            }
            case 5 -> {
                int k = about(20);
                alike("codeAt(" + m + ", " + k + ")", () -> tree.codeAt(small, m, k), () -> twin.codeAt(small, m, k));
            }
            default -> {
                int member = about(30);
                alike("moved(" + member + ")", () -> tree.moved(member), () -> twin.moved(member));
            }
        }
    }

    private void run() {
        boolean small = below(2) == 0;
        int m = someMethod(small ? twin.shaken : twin.whole);
        int x = someInt();
        int y = someInt();
        alike("run(" + small + ", " + m + ", " + x + ", " + y + ")",
                () -> tree.run(small, m, x, y), () -> twin.run(small, m, x, y));
    }

    private void seldom() {
        if (!filling && (below(90) == 0 || twin.fault() != -1 && below(12) == 0)) {
            alike("clear()", () -> {
                tree.clear();
                return 0;
            }, () -> {
                twin.clear();
                return 0;
            });
            return;
        }
        int m = someMethod(twin.whole);
        boolean is = below(3) != 0;
        alike("entry(" + m + ", " + is + ")",
                () -> {
                    tree.entry(m, is);
                    return 0;
                },
                () -> {
                    twin.entry(m, is);
                    return 0;
                });
    }

    private void shake() {
        alike("shake()", () -> tree.shake(), () -> twin.shake());
        if (twin.fault() != -1) {
            return;
        }
        if (below(4) == 0) {
            shakenInFull();
        }
        if (twin.whole.parts.stream().anyMatch(p -> p.entry)) {
            doesTheSame();
        }
    }

    /** All that can be asked of the shaken program. */
    private void shakenInFull() {
        for (int c = 0; c < twin.shaken.pools.size(); c++) {
            int owner = c;
            alike("pool(" + c + ")", () -> tree.pool(true, owner), () -> twin.pool(true, owner));
            for (int k = 0; k < 3 * twin.shaken.pools.get(c).size(); k++) {
                int place = k / 3;
                int what = k % 3;
                alike("constantAt(" + c + ", " + place + ", " + what + ")",
                        () -> tree.constantAt(true, owner, place, what), () -> twin.constantAt(true, owner, place, what));
            }
        }
        for (int m = 0; m < twin.shaken.parts.size(); m++) {
            int member = m;
            for (int k = 0; k < 6; k++) {
                int what = k;
                alike("memberAt(" + m + ", " + k + ")", () -> tree.memberAt(true, member, what), () -> twin.memberAt(true, member, what));
            }
            for (int k = 0; k < twin.shaken.parts.get(m).steps.size(); k++) {
                int step = k;
                alike("codeAt(" + m + ", " + k + ")", () -> tree.codeAt(true, member, step), () -> twin.codeAt(true, member, step));
            }
        }
        for (int m = -1; m <= 30; m++) {
            int member = m;
            alike("moved(" + m + ")", () -> tree.moved(member), () -> twin.moved(member));
        }
    }

    private void doesTheSame() {
        for (int m = 0; m < twin.whole.parts.size() && calls + 2 <= Story.MOST_CALLS; m++) {
            int old = m;
            int now = twin.moved(m);
            if (now != ShakenTree.NONE && twin.whole.method(m)) {
                int x = someInt();
                int y = someInt();
                calls++;
                alike("same(" + m + ")", () -> tree.run(true, now, x, y), () -> tree.run(false, old, x, y));
            }
        }
    }
}
