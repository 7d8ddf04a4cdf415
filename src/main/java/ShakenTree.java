import java.util.Arrays;

/**
 * Shakes programs of class files: from the methods that must stay, everything that they can reach
 * is kept, all else is left out, the constants that are not needed go and the others close up,
 * names become small, and the shaken program does the same as the whole one.
 */
public final class ShakenTree {
    public static final int NONE = -1;

    private static final int MOST_CLASSES = 6;
    private static final int MOST_CONSTANTS = 20;
    private static final int MOST_MEMBERS = 30;
    private static final int MOST_ARGUMENTS = 2;
    private static final int MOST_INSTRUCTIONS = 20;
    private static final int NAMES = 100;
    private static final int STACK_ROOM = 8;
    private static final int MOST_OPEN_METHODS = 8;
    private static final int MOST_STEPS = 400;

    /** What a field has in place of a number of arguments. */
    private static final int OF_A_FIELD = -1;

    private static final int INT = 0;
    private static final int NAME = 1;
    private static final int CLASS = 2;
    private static final int FIELD = 3;
    private static final int METHOD = 4;

    private static final int PUSH = 0;
    private static final int GET = 1;
    private static final int PUT = 2;
    private static final int CALL = 3;
    private static final int ARG = 4;
    private static final int ADD = 5;
    private static final int SUB = 6;
    private static final int MUL = 7;
    private static final int DIV = 8;
    private static final int ZERO = 9;
    private static final int GO = 10;
    private static final int RETURN = 11;
    private static final int THROW = 12;

    private final Program wholeProgram;
    private final Program shakenProgram;
    private final Shaker shaker;
    private final Machine machine;

    public ShakenTree() {
        wholeProgram = new Program();
        shakenProgram = new Program();
        shaker = new Shaker();
        machine = new Machine();
    }

    public int add() throws IllegalStateException {
        if (wholeProgram.classes >= MOST_CLASSES) {
            throw new IllegalStateException("no room for a class");
        }
        return wholeProgram.startClass();
    }

    public int constant(int owner, int kind, int a, int b)
            throws IndexOutOfBoundsException, IllegalArgumentException, IllegalStateException {
        if (!wholeProgram.hasClass(owner)) {
            throw new IndexOutOfBoundsException("no such class");
        }
        if (!wholeProgram.allowsConstant(owner, kind, a, b)) {
            throw new IllegalArgumentException("no constant is like this");
        }
        Pool constants = wholeProgram.pools[owner];
        if (constants.size >= MOST_CONSTANTS) {
            throw new IllegalStateException("no room for a constant");
        }
        return constants.append(kind, a, hasTwoPlaces(kind) ? b : 0);
    }

    public int member(int owner, int name, int arguments)
            throws IndexOutOfBoundsException, IllegalArgumentException, IllegalStateException {
        if (!wholeProgram.hasClass(owner)) {
            throw new IndexOutOfBoundsException("no such class");
        }
        if (!wholeProgram.allowsMember(owner, name, arguments)) {
            throw new IllegalArgumentException("no member can be like this");
        }
        if (wholeProgram.size >= MOST_MEMBERS) {
            throw new IllegalStateException("no room for a member");
        }
        return wholeProgram.startMember(owner, name, arguments);
    }

    public int code(int method, int what, int n)
            throws IndexOutOfBoundsException, IllegalArgumentException, IllegalStateException {
        if (!wholeProgram.hasMethod(method)) {
            throw new IndexOutOfBoundsException("no such method");
        }
        if (what < PUSH || what > THROW) {
            throw new IllegalArgumentException("no such instruction");
        }
        Member target = wholeProgram.members[method];
        if (target.length >= MOST_INSTRUCTIONS) {
            throw new IllegalStateException("no room for an instruction");
        }
        return target.append(what, n);
    }

    public void entry(int method, boolean is) throws IndexOutOfBoundsException {
        if (!wholeProgram.hasMethod(method)) {
            throw new IndexOutOfBoundsException("no such method");
        }
        wholeProgram.members[method].isEntry = is;
    }

    public void clear() {
        wholeProgram.empty();
    }

    public int fault() {
        return wholeProgram.firstFault();
    }

    public int shake() throws IllegalStateException {
        if (wholeProgram.firstFault() != NONE) {
            throw new IllegalStateException("the program is not closed");
        }
        if (wholeProgram.entries() == 0) {
            throw new IllegalStateException("the program has no entry");
        }
        shaker.rebuild(wholeProgram, shakenProgram);
        return shakenProgram.size;
    }

    public int count(boolean shaken, int what) throws IllegalArgumentException {
        Program program = chosen(shaken);
        switch (what) {
            case 0:
                return program.classes;
            case 1:
                return program.size;
            case 2:
                return program.entries();
            default:
                throw new IllegalArgumentException("nothing to count");
        }
    }

    public int pool(boolean shaken, int owner) throws IndexOutOfBoundsException {
        Program program = chosen(shaken);
        if (!program.hasClass(owner)) {
            throw new IndexOutOfBoundsException("no such class");
        }
        return program.pools[owner].size;
    }

    public int constantAt(boolean shaken, int owner, int place, int what)
            throws IndexOutOfBoundsException, IllegalArgumentException {
        Program program = chosen(shaken);
        if (!program.hasClass(owner)) {
            throw new IndexOutOfBoundsException("no such class");
        }
        Pool constants = program.pools[owner];
        if (!constants.has(place)) {
            throw new IndexOutOfBoundsException("no such place");
        }
        switch (what) {
            case 0:
                return constants.kinds[place];
            case 1:
                return constants.firsts[place];
            case 2:
                return constants.seconds[place];
            default:
                throw new IllegalArgumentException("nothing to tell of a constant");
        }
    }

    public int memberAt(boolean shaken, int member, int what)
            throws IndexOutOfBoundsException, IllegalArgumentException {
        Program program = chosen(shaken);
        if (!program.hasMember(member)) {
            throw new IndexOutOfBoundsException("no such member");
        }
        Member told = program.members[member];
        switch (what) {
            case 0:
                return told.owner;
            case 1:
                return told.namePlace;
            case 2:
                return told.arguments;
            case 3:
                return told.length;
            case 4:
                return told.isEntry ? 1 : 0;
            case 5:
                return program.nameOf(member);
            default:
                throw new IllegalArgumentException("nothing to tell of a member");
        }
    }

    public int codeAt(boolean shaken, int method, int k) throws IndexOutOfBoundsException {
        Program program = chosen(shaken);
        if (!program.hasMethod(method)) {
            throw new IndexOutOfBoundsException("no such method");
        }
        Member told = program.members[method];
        if (k < 0 || k >= told.length) {
            throw new IndexOutOfBoundsException("no such instruction");
        }
        return 1000 * told.whats[k] + told.numbers[k];
    }

    public int moved(int member) {
        return shaker.newNumber(member);
    }

    public int run(boolean shaken, int method, int x, int y)
            throws IndexOutOfBoundsException, IllegalArgumentException, ArithmeticException,
                    UnsupportedOperationException, IllegalStateException {
        Program program = chosen(shaken);
        if (!program.hasMethod(method)) {
            throw new IndexOutOfBoundsException("no such method");
        }
        // A shaken program is always closed, so only the whole one is looked at.
        if (!shaken && program.firstFault() != NONE) {
            throw new IllegalArgumentException("the program is not closed");
        }
        return machine.execute(program, method, x, y);
    }

    private Program chosen(boolean shaken) {
        return shaken ? shakenProgram : wholeProgram;
    }

    private static boolean hasTwoPlaces(int kind) {
        return kind == FIELD || kind == METHOD;
    }

    private static boolean usesConstant(int what) {
        return what == PUSH || what == GET || what == PUT || what == CALL;
    }

    /** The constants of one class. */
    private static final class Pool {
        final int[] kinds = new int[MOST_CONSTANTS];
        final int[] firsts = new int[MOST_CONSTANTS];
        final int[] seconds = new int[MOST_CONSTANTS];
        int size;

        boolean has(int place) {
            return place >= 0 && place < size;
        }

        boolean holds(int place, int kind) {
            return has(place) && kinds[place] == kind;
        }

        int append(int kind, int first, int second) {
            kinds[size] = kind;
            firsts[size] = first;
            seconds[size] = second;
            size++;
            return size - 1;
        }
    }

    /** A field, or a method with its instructions. */
    private static final class Member {
        int owner;
        int namePlace;
        int arguments;
        boolean isEntry;
        int length;
        final int[] whats = new int[MOST_INSTRUCTIONS];
        final int[] numbers = new int[MOST_INSTRUCTIONS];

        void start(int newOwner, int newNamePlace, int newArguments) {
            owner = newOwner;
            namePlace = newNamePlace;
            arguments = newArguments;
            isEntry = false;
            length = 0;
        }

        boolean isField() {
            return arguments == OF_A_FIELD;
        }

        int append(int what, int number) {
            whats[length] = what;
            numbers[length] = number;
            length++;
            return length - 1;
        }
    }

    /** Classes and members; the rows are made once and used again when the program is emptied. */
    private static final class Program {
        final Pool[] pools = new Pool[MOST_CLASSES];
        final Member[] members = new Member[MOST_MEMBERS];
        int classes;
        int size;

        Program() {
            for (int c = 0; c < MOST_CLASSES; c++) {
                pools[c] = new Pool();
            }
            for (int m = 0; m < MOST_MEMBERS; m++) {
                members[m] = new Member();
            }
        }

        void empty() {
            classes = 0;
            size = 0;
        }

        int startClass() {
            pools[classes].size = 0;
            classes++;
            return classes - 1;
        }

        int startMember(int owner, int namePlace, int arguments) {
            members[size].start(owner, namePlace, arguments);
            size++;
            return size - 1;
        }

        boolean hasClass(int owner) {
            return owner >= 0 && owner < classes;
        }

        boolean hasMember(int member) {
            return member >= 0 && member < size;
        }

        boolean hasMethod(int method) {
            return hasMember(method) && !members[method].isField();
        }

        int nameOf(int member) {
            Member named = members[member];
            return pools[named.owner].firsts[named.namePlace];
        }

        int entries() {
            int found = 0;
            for (int m = 0; m < size; m++) {
                if (members[m].isEntry) {
                    found++;
                }
            }
            return found;
        }

        boolean allowsConstant(int owner, int kind, int a, int b) {
            switch (kind) {
                case INT:
                    return true;
                case NAME:
                    return a >= 0 && a < NAMES;
                case CLASS:
                    return hasClass(a);
                case FIELD:
                case METHOD:
                    return pools[owner].holds(a, CLASS) && pools[owner].holds(b, NAME);
                default:
                    return false;
            }
        }

        boolean allowsMember(int owner, int namePlace, int arguments) {
            if (!pools[owner].holds(namePlace, NAME)) {
                return false;
            }
            if (arguments < OF_A_FIELD || arguments > MOST_ARGUMENTS) {
                return false;
            }
            int name = pools[owner].firsts[namePlace];
            return find(owner, name, arguments == OF_A_FIELD) == NONE;
        }

        /** The number of the field or method of a class with that name, or NONE. */
        int find(int owner, int name, boolean isField) {
            for (int m = 0; m < size; m++) {
                Member seen = members[m];
                if (seen.owner == owner && seen.isField() == isField && nameOf(m) == name) {
                    return m;
                }
            }
            return NONE;
        }

        /** The member that the FIELD or METHOD at a place means; NONE when there is none. */
        int meant(int owner, int place) {
            Pool constants = pools[owner];
            if (!constants.has(place) || !hasTwoPlaces(constants.kinds[place])) {
                return NONE;
            }
            int of = constants.firsts[constants.firsts[place]];
            int name = constants.firsts[constants.seconds[place]];
            return find(of, name, constants.kinds[place] == FIELD);
        }

        int firstFault() {
            for (int m = 0; m < size; m++) {
                Member method = members[m];
                for (int k = 0; k < method.length; k++) {
                    if (!isSound(method, method.whats[k], method.numbers[k])) {
                        return 100 * m + k;
                    }
                }
            }
            return NONE;
        }

        private boolean isSound(Member method, int what, int number) {
            Pool constants = pools[method.owner];
            switch (what) {
                case PUSH:
                    return constants.holds(number, INT);
                case GET:
                case PUT:
                    return constants.holds(number, FIELD) && meant(method.owner, number) != NONE;
                case CALL:
                    return constants.holds(number, METHOD) && meant(method.owner, number) != NONE;
                case ARG:
                    return number >= 0 && number < method.arguments;
                case ZERO:
                case GO:
                    return number >= 0 && number < method.length;
                default:
                    return true;
            }
        }
    }

    /**
     * Writes what is kept of one program into another. Each row says for an old number the new
     * one, or NONE when it is not kept; while things are still being found, KEPT stands there.
     */
    private static final class Shaker {
        static final int KEPT = 0;
        static final int UNUSED = 0;
        static final int USED = 1;
        static final int OF_AN_ENTRY = 2;

        private final int[] memberTo = new int[MOST_MEMBERS];
        private final int[] classTo = new int[MOST_CLASSES];
        private final int[][] constantTo = new int[MOST_CLASSES][MOST_CONSTANTS];
        private final int[] nameTo = new int[NAMES];
        private final int[] nameUse = new int[NAMES];
        private final int[] found = new int[MOST_MEMBERS];
        private int foundSize;

        Shaker() {
            Arrays.fill(memberTo, NONE);
        }

        int newNumber(int member) {
            return member >= 0 && member < MOST_MEMBERS ? memberTo[member] : NONE;
        }

        /** Takes a closed program; the member row stays as it is until the next shake, for newNumber. */
        void rebuild(Program from, Program to) {
            forget();
            keepEntries(from);
            keepReached(from);
            closeUpAll(from);
            lookAtNames(from);
            giveNames();
            write(from, to);
        }

        private void forget() {
            Arrays.fill(memberTo, NONE);
            Arrays.fill(classTo, NONE);
            for (int c = 0; c < MOST_CLASSES; c++) {
                Arrays.fill(constantTo[c], NONE);
            }
            Arrays.fill(nameTo, NONE);
            Arrays.fill(nameUse, UNUSED);
            foundSize = 0;
        }

        private void keepEntries(Program from) {
            for (int m = 0; m < from.size; m++) {
                if (from.members[m].isEntry) {
                    keepMember(from, m);
                }
            }
        }

        private void keepReached(Program from) {
            // The row grows while it is walked, but no member comes into it twice.
            for (int k = 0; k < foundSize && k < MOST_MEMBERS; k++) {
                Member member = from.members[found[k]];
                for (int i = 0; i < member.length; i++) {
                    if (usesConstant(member.whats[i])) {
                        keepConstant(from, member.owner, member.numbers[i]);
                    }
                }
            }
        }

        private void keepMember(Program from, int member) {
            if (member == NONE || memberTo[member] != NONE) {
                return;
            }
            Member kept = from.members[member];
            memberTo[member] = KEPT;
            classTo[kept.owner] = KEPT;
            constantTo[kept.owner][kept.namePlace] = KEPT;
            found[foundSize] = member;
            foundSize++;
        }

        private void keepConstant(Program from, int owner, int place) {
            Pool constants = from.pools[owner];
            constantTo[owner][place] = KEPT;
            if (hasTwoPlaces(constants.kinds[place])) {
                constantTo[owner][constants.firsts[place]] = KEPT;
                constantTo[owner][constants.seconds[place]] = KEPT;
                keepMember(from, from.meant(owner, place));
            }
        }

        private void closeUpAll(Program from) {
            closeUp(memberTo, from.size);
            closeUp(classTo, from.classes);
            for (int c = 0; c < from.classes; c++) {
                closeUp(constantTo[c], from.pools[c].size);
            }
        }

        private static void closeUp(int[] row, int size) {
            int next = 0;
            for (int k = 0; k < size; k++) {
                if (row[k] != NONE) {
                    row[k] = next;
                    next++;
                }
            }
        }

        private void lookAtNames(Program from) {
            for (int c = 0; c < from.classes; c++) {
                Pool constants = from.pools[c];
                for (int p = 0; p < constants.size; p++) {
                    if (constantTo[c][p] != NONE && constants.kinds[p] == NAME) {
                        nameUse[constants.firsts[p]] = USED;
                    }
                }
            }
            for (int m = 0; m < from.size; m++) {
                if (from.members[m].isEntry) {
                    nameUse[from.nameOf(m)] = OF_AN_ENTRY;
                }
            }
        }

        private void giveNames() {
            int next = 0;
            for (int n = 0; n < NAMES; n++) {
                if (nameUse[n] == OF_AN_ENTRY) {
                    nameTo[n] = n;
                } else if (nameUse[n] == USED) {
                    next = leastFreeName(next);
                    nameTo[n] = next;
                    next++;
                }
            }
        }

        private int leastFreeName(int start) {
            for (int n = start; n < NAMES; n++) {
                if (nameUse[n] != OF_AN_ENTRY) {
                    return n;
                }
            }
            return NONE;
        }

        private void write(Program from, Program to) {
            to.empty();
            for (int c = 0; c < from.classes; c++) {
                if (classTo[c] != NONE) {
                    writePool(from.pools[c], constantTo[c], to.pools[to.startClass()]);
                }
            }
            for (int m = 0; m < from.size; m++) {
                if (memberTo[m] != NONE) {
                    writeMember(from.members[m], to);
                }
            }
        }

        private void writePool(Pool from, int[] placeTo, Pool to) {
            for (int p = 0; p < from.size; p++) {
                if (placeTo[p] != NONE) {
                    int kind = from.kinds[p];
                    int first = newFirst(kind, from.firsts[p], placeTo);
                    int second = hasTwoPlaces(kind) ? placeTo[from.seconds[p]] : 0;
                    to.append(kind, first, second);
                }
            }
        }

        private int newFirst(int kind, int first, int[] placeTo) {
            switch (kind) {
                case NAME:
                    return nameTo[first];
                case CLASS:
                    return classTo[first];
                case FIELD:
                case METHOD:
                    return placeTo[first];
                default:
                    return first;
            }
        }

        private void writeMember(Member from, Program to) {
            int[] placeTo = constantTo[from.owner];
            int number = to.startMember(classTo[from.owner], placeTo[from.namePlace], from.arguments);
            Member copy = to.members[number];
            copy.isEntry = from.isEntry;
            for (int k = 0; k < from.length; k++) {
                int what = from.whats[k];
                int old = from.numbers[k];
                copy.append(what, usesConstant(what) ? placeTo[old] : old);
            }
        }
    }

    /** A method that was begun and has not ended. */
    private static final class Frame {
        final int[] stack = new int[STACK_ROOM];
        int height;
        Member method;
        int next;
        int x;
        int y;

        void start(Member newMethod, int newX, int newY) {
            method = newMethod;
            x = newX;
            y = newY;
            height = 0;
            next = 0;
        }

        void put(int value) {
            if (height >= STACK_ROOM) {
                throw new IllegalStateException("the stack is full");
            }
            stack[height] = value;
            height++;
        }

        int take() {
            if (height <= 0) {
                throw new IllegalStateException("the stack is empty");
            }
            height--;
            return stack[height];
        }
    }

    /** Runs methods of closed programs, so what a constant means is always there. */
    private static final class Machine {
        private final int[] fields = new int[MOST_MEMBERS];
        private final Frame[] frames = new Frame[MOST_OPEN_METHODS];
        private int open;
        private int result;

        Machine() {
            for (int f = 0; f < MOST_OPEN_METHODS; f++) {
                frames[f] = new Frame();
            }
        }

        int execute(Program program, int method, int x, int y) {
            Arrays.fill(fields, 0);
            open = 0;
            begin(program.members[method], x, y);
            for (int steps = 0; steps < MOST_STEPS; steps++) {
                step(program, frames[open - 1]);
                if (open == 0) {
                    return result;
                }
            }
            throw new IllegalStateException("too many instructions");
        }

        private void begin(Member method, int x, int y) {
            if (open >= MOST_OPEN_METHODS) {
                throw new IllegalStateException("too many open methods");
            }
            frames[open].start(method, x, y);
            open++;
        }

        private void step(Program program, Frame frame) {
            if (frame.next >= frame.method.length) {
                throw new IllegalStateException("no next instruction");
            }
            int what = frame.method.whats[frame.next];
            int number = frame.method.numbers[frame.next];
            frame.next++;
            if (usesConstant(what)) {
                useConstant(program, frame, what, number);
            } else if (what >= ADD && what <= DIV) {
                calculate(frame, what);
            } else {
                steer(frame, what, number);
            }
        }

        private void useConstant(Program program, Frame frame, int what, int place) {
            int owner = frame.method.owner;
            if (what == PUSH) {
                frame.put(program.pools[owner].firsts[place]);
                return;
            }
            int member = program.meant(owner, place);
            if (what == GET) {
                frame.put(fields[member]);
            } else if (what == PUT) {
                fields[member] = frame.take();
            } else {
                call(frame, program.members[member]);
            }
        }

        private void call(Frame frame, Member method) {
            int y = method.arguments >= 2 ? frame.take() : 0;
            int x = method.arguments >= 1 ? frame.take() : 0;
            begin(method, x, y);
        }

        private static void calculate(Frame frame, int what) {
            int b = frame.take();
            int a = frame.take();
            if (what == ADD) {
                frame.put(a + b);
            } else if (what == SUB) {
                frame.put(a - b);
            } else if (what == MUL) {
                frame.put(a * b);
            } else {
                if (b == 0) {
                    throw new ArithmeticException("a division by 0");
                }
                frame.put(a / b);
            }
        }

        private void steer(Frame frame, int what, int number) {
            switch (what) {
                case ARG:
                    frame.put(number == 0 ? frame.x : frame.y);
                    break;
                case ZERO:
                    if (frame.take() == 0) {
                        frame.next = number;
                    }
                    break;
                case GO:
                    frame.next = number;
                    break;
                case RETURN:
                    end(frame.take());
                    break;
                default:
                    frame.take();
                    throw new UnsupportedOperationException("thrown by the program");
            }
        }

        /** The caller's CALL is over only now, so only now must its stack have room. */
        private void end(int value) {
            open--;
            if (open == 0) {
                result = value;
            } else {
                frames[open - 1].put(value);
            }
        }
    }
}
