import java.util.ArrayDeque;
import java.util.ArrayList;
import java.util.Deque;
import java.util.HashMap;
import java.util.List;
import java.util.Map;
import java.util.Set;
import java.util.TreeSet;

/** The document written down a second time, with lists, sets and recursion; for TwinTest alone. */
final class Twin {
    record Constant(int kind, int a, int b) {}

    record Step(int what, int n) {}

    static final class Part {
        int owner;
        int place;
        int arguments;
        boolean entry;
        final List<Step> steps = new ArrayList<>();

        boolean field() {
            return arguments == -1;
        }
    }

    static final class Whole {
        final List<List<Constant>> pools = new ArrayList<>();
        final List<Part> parts = new ArrayList<>();

        Constant at(int owner, int place) {
            List<Constant> pool = pools.get(owner);
            return place < 0 || place >= pool.size() ? new Constant(-1, 0, 0) : pool.get(place);
        }

        int name(Part p) {
            return at(p.owner, p.place).a;
        }

        boolean method(int m) {
            return m >= 0 && m < parts.size() && !parts.get(m).field();
        }

        Part meant(int owner, int place) {
            Constant c = at(owner, place);
            for (Part p : parts) {
                boolean alike = c.kind == (p.field() ? 3 : 4);
                if (alike && p.owner == at(owner, c.a).a && name(p) == at(owner, c.b).a) {
                    return p;
                }
            }
            return null;
        }

        boolean sound(Part p, Step s) {
            return switch (s.what) {
                case 0 -> at(p.owner, s.n).kind == 0;
                case 1, 2 -> at(p.owner, s.n).kind == 3 && meant(p.owner, s.n) != null;
                case 3 -> at(p.owner, s.n).kind == 4 && meant(p.owner, s.n) != null;
                case 4 -> s.n >= 0 && s.n < p.arguments;
                case 9, 10 -> s.n >= 0 && s.n < p.steps.size();
                default -> true;
            };
        }
    }

    Whole whole = new Whole();
    Whole shaken = new Whole();
    private final Map<Integer, Integer> movedTo = new HashMap<>();

    private Whole of(boolean small) {
        return small ? shaken : whole;
    }

    int add() {
        stateIf(whole.pools.size() == 6);
        whole.pools.add(new ArrayList<>());
        return whole.pools.size() - 1;
    }

    int constant(int owner, int kind, int a, int b) {
        indexIf(owner < 0 || owner >= whole.pools.size());
        boolean fine = switch (kind) {
            case 0 -> true;
            case 1 -> a >= 0 && a <= 99;
            case 2 -> a >= 0 && a < whole.pools.size();
            case 3, 4 -> whole.at(owner, a).kind == 2 && whole.at(owner, b).kind == 1;
            default -> false;
        };
        argumentIf(!fine);
        stateIf(whole.pools.get(owner).size() == 20);
        whole.pools.get(owner).add(new Constant(kind, a, kind >= 3 ? b : 0));
        return whole.pools.get(owner).size() - 1;
    }

    int member(int owner, int name, int arguments) {
        indexIf(owner < 0 || owner >= whole.pools.size());
        argumentIf(whole.at(owner, name).kind != 1 || arguments < -1 || arguments > 2);
        for (Part p : whole.parts) {
            argumentIf(p.owner == owner && p.field() == (arguments == -1) && whole.name(p) == whole.at(owner, name).a);
        }
        stateIf(whole.parts.size() == 30);
        Part made = new Part();
        made.owner = owner;
        made.place = name;
        made.arguments = arguments;
        whole.parts.add(made);
        return whole.parts.size() - 1;
    }

    int code(int method, int what, int n) {
        indexIf(!whole.method(method));
        argumentIf(what < 0 || what > 12);
        stateIf(whole.parts.get(method).steps.size() == 20);
        whole.parts.get(method).steps.add(new Step(what, n));
        return whole.parts.get(method).steps.size() - 1;
    }

    void entry(int method, boolean is) {
        indexIf(!whole.method(method));
        whole.parts.get(method).entry = is;
    }

    void clear() {
        whole = new Whole();
    }

    int fault() {
        for (int m = 0; m < whole.parts.size(); m++) {
            Part p = whole.parts.get(m);
            for (int k = 0; k < p.steps.size(); k++) {
                if (!whole.sound(p, p.steps.get(k))) {
                    return 100 * m + k;
                }
            }
        }
        return -1;
    }

    int shake() {
        stateIf(fault() != -1 || whole.parts.stream().noneMatch(p -> p.entry));
        Set<Integer> members = reached();
        List<Integer> newMembers = new ArrayList<>(members);
        Set<Integer> owners = new TreeSet<>();
        members.forEach(m -> owners.add(whole.parts.get(m).owner));
        List<Integer> newOwners = new ArrayList<>(owners);
        Map<Integer, List<Integer>> places = new HashMap<>();
        owners.forEach(c -> places.put(c, new ArrayList<>(needed(c, members))));
        Map<Integer, Integer> names = renamed(places);
        Whole made = new Whole();
        for (int c : newOwners) {
            List<Constant> pool = new ArrayList<>();
            List<Integer> at = places.get(c);
            for (int p : at) {
                Constant old = whole.at(c, p);
                pool.add(switch (old.kind) {
                    case 0 -> old;
                    case 1 -> new Constant(1, names.get(old.a), 0);
                    case 2 -> new Constant(2, newOwners.indexOf(old.a), 0);
                    default -> new Constant(old.kind, at.indexOf(old.a), at.indexOf(old.b));
                });
            }
            made.pools.add(pool);
        }
        movedTo.clear();
        for (int m : newMembers) {
            Part old = whole.parts.get(m);
            Part copy = new Part();
            copy.owner = newOwners.indexOf(old.owner);
            copy.place = places.get(old.owner).indexOf(old.place);
            copy.arguments = old.arguments;
            copy.entry = old.entry;
            for (Step s : old.steps) {
                copy.steps.add(s.what <= 3 ? new Step(s.what, places.get(old.owner).indexOf(s.n)) : s);
            }
            movedTo.put(m, made.parts.size());
            made.parts.add(copy);
        }
        shaken = made;
        return made.parts.size();
    }

    private Set<Integer> reached() {
        Set<Integer> kept = new TreeSet<>();
        for (int m = 0; m < whole.parts.size(); m++) {
            if (whole.parts.get(m).entry) {
                kept.add(m);
            }
        }
        int before = -1;
        while (before != kept.size()) {
            before = kept.size();
            for (int m : List.copyOf(kept)) {
                Part p = whole.parts.get(m);
                for (Step s : p.steps) {
                    if (s.what >= 1 && s.what <= 3) {
                        kept.add(whole.parts.indexOf(whole.meant(p.owner, s.n)));
                    }
                }
            }
        }
        return kept;
    }

    private Set<Integer> needed(int owner, Set<Integer> members) {
        Set<Integer> kept = new TreeSet<>();
        for (int m : members) {
            Part p = whole.parts.get(m);
            if (p.owner == owner) {
                kept.add(p.place);
                p.steps.stream().filter(s -> s.what <= 3).forEach(s -> kept.add(s.n));
            }
        }
        for (int place : List.copyOf(kept)) {
            Constant c = whole.at(owner, place);
            if (c.kind >= 3) {
                kept.add(c.a);
                kept.add(c.b);
            }
        }
        return kept;
    }

    private Map<Integer, Integer> renamed(Map<Integer, List<Integer>> places) {
        Set<Integer> stay = new TreeSet<>();
        whole.parts.stream().filter(p -> p.entry).forEach(p -> stay.add(whole.name(p)));
        Set<Integer> others = new TreeSet<>();
        places.forEach((c, at) -> at.forEach(p -> {
            if (whole.at(c, p).kind == 1 && !stay.contains(whole.at(c, p).a)) {
                others.add(whole.at(c, p).a);
            }
        }));
        Map<Integer, Integer> names = new HashMap<>();
        stay.forEach(n -> names.put(n, n));
        Set<Integer> taken = new TreeSet<>(stay);
        for (int n : others) {
            int least = 0;
            while (!taken.add(least)) {
                least++;
            }
            names.put(n, least);
        }
        return names;
    }

    int count(boolean small, int what) {
        argumentIf(what < 0 || what > 2);
        Whole w = of(small);
        return what == 0 ? w.pools.size() : what == 1 ? w.parts.size() : (int) w.parts.stream().filter(p -> p.entry).count();
    }

    int pool(boolean small, int owner) {
        indexIf(owner < 0 || owner >= of(small).pools.size());
        return of(small).pools.get(owner).size();
    }

    int constantAt(boolean small, int owner, int place, int what) {
        indexIf(owner < 0 || owner >= of(small).pools.size() || of(small).at(owner, place).kind == -1);
        argumentIf(what < 0 || what > 2);
        Constant c = of(small).at(owner, place);
        return what == 0 ? c.kind : what == 1 ? c.a : c.b;
    }

    int memberAt(boolean small, int member, int what) {
        indexIf(member < 0 || member >= of(small).parts.size());
        argumentIf(what < 0 || what > 5);
        Part p = of(small).parts.get(member);
        int[] told = {p.owner, p.place, p.arguments, p.steps.size(), p.entry ? 1 : 0, of(small).name(p)};
        return told[what];
    }

    int codeAt(boolean small, int method, int k) {
        indexIf(!of(small).method(method) || k < 0 || k >= of(small).parts.get(method).steps.size());
        Step s = of(small).parts.get(method).steps.get(k);
        return 1000 * s.what + s.n;
    }

    int moved(int member) {
        return movedTo.getOrDefault(member, -1);
    }

    int run(boolean small, int method, int x, int y) {
        indexIf(!of(small).method(method));
        argumentIf(!small && fault() != -1);
        return new Going(of(small)).go(of(small).parts.get(method), 1, x, y);
    }

    /** One run. */
    private static final class Going {
        private final Whole program;
        private final Map<Part, Integer> values = new HashMap<>();
        private int done = 0;

        Going(Whole program) {
            this.program = program;
        }

        int go(Part p, int depth, int... arguments) {
            stateIf(depth > 8);
            Deque<Integer> stack = new ArrayDeque<>();
            int next = 0;
            while (true) {
                stateIf(next >= p.steps.size() || done == 400);
                done++;
                Step s = p.steps.get(next++);
                switch (s.what) {
                    case 0 -> push(stack, program.at(p.owner, s.n).a);
                    case 1 -> push(stack, values.getOrDefault(program.meant(p.owner, s.n), 0));
                    case 2 -> values.put(program.meant(p.owner, s.n), pop(stack));
                    case 3 -> push(stack, called(program.meant(p.owner, s.n), depth, stack));
                    case 4 -> push(stack, arguments[s.n]);
                    case 5, 6, 7, 8 -> push(stack, calculated(s.what, pop(stack), pop(stack)));
                    case 9 -> next = pop(stack) == 0 ? s.n : next;
                    case 10 -> next = s.n;
                    case 11 -> {
                        return pop(stack);
                    }
                    default -> {
                        pop(stack);
                        throw new UnsupportedOperationException();
                    }
                }
            }
        }

        private int called(Part p, int depth, Deque<Integer> stack) {
            int[] arguments = new int[p.arguments];
            for (int k = arguments.length - 1; k >= 0; k--) {
                arguments[k] = pop(stack);
            }
            return go(p, depth + 1, arguments);
        }

        private static int calculated(int what, int b, int a) {
            return switch (what) {
                case 5 -> a + b;
                case 6 -> a - b;
                case 7 -> a * b;
                default -> a / b;
            };
        }

        private static void push(Deque<Integer> stack, int value) {
            stateIf(stack.size() == 8);
            stack.push(value);
        }

        private static int pop(Deque<Integer> stack) {
            stateIf(stack.isEmpty());
            return stack.pop();
        }
    }

    private static void indexIf(boolean wrong) {
        if (wrong) {
            throw new IndexOutOfBoundsException();
        }
    }

    private static void argumentIf(boolean wrong) {
        if (wrong) {
            throw new IllegalArgumentException();
        }
    }

    private static void stateIf(boolean wrong) {
        if (wrong) {
            throw new IllegalStateException();
        }
    }
}
