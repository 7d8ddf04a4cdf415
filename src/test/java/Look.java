import java.util.ArrayList;
import java.util.List;
import java.util.function.IntSupplier;

/**
 * All that can be told of the state that a story comes to, as lines of text: every question with
 * its answer, and what the next calls would do. Two states are the same if their looks are.
 */
final class Look {
    private final Story story;
    private final List<String> lines;
    private ShakenTree object;
    private int calls = Story.MOST_CALLS;

    private Look(Story story, List<String> lines) {
        this.story = story;
        this.lines = lines;
    }

    static List<String> at(Story story) {
        List<String> lines = new ArrayList<>();
        Look now = new Look(story, lines);
        now.program(false);
        now.program(true);
        now.moved();
        now.line("fault()", () -> now.tree().fault());
        now.nextCalls();
        Look shaken = new Look(story.then(t -> Check.thrownBy(t::shake)), lines);
        shaken.program(true);
        shaken.moved();
        new Look(story.clear().add(), lines).program(false);
        return lines;
    }

    /** The object for one more call; another one alike when this one has had its 512. */
    private ShakenTree tree() {
        if (calls == Story.MOST_CALLS) {
            object = story.told();
            calls = story.calls();
        }
        calls++;
        return object;
    }

    private int line(String call, IntSupplier answer) {
        int[] got = {0};
        String thrown = Check.thrownBy(() -> got[0] = answer.getAsInt());
        lines.add(call + ": " + (thrown.equals("nothing") ? got[0] : thrown));
        return got[0];
    }

    private void program(boolean shaken) {
        int classes = line(shaken + " classes", () -> tree().count(shaken, 0));
        int members = line(shaken + " members", () -> tree().count(shaken, 1));
        line(shaken + " entries", () -> tree().count(shaken, 2));
        for (int c = 0; c < classes; c++) {
            constants(shaken, c);
        }
        for (int m = 0; m < members; m++) {
            member(shaken, m);
        }
    }

    private void constants(boolean shaken, int c) {
        int size = line(shaken + " pool " + c, () -> tree().pool(shaken, c));
        for (int k = 0; k < 3 * size; k++) {
            int place = k / 3;
            int what = k % 3;
            line(shaken + " constant " + c + " " + place + " " + what, () -> tree().constantAt(shaken, c, place, what));
        }
    }

    private void member(boolean shaken, int m) {
        for (int k = 0; k < 6; k++) {
            int what = k;
            line(shaken + " member " + m + " " + what, () -> tree().memberAt(shaken, m, what));
        }
        int length = tree().memberAt(shaken, m, 3);
        for (int k = 0; k < length; k++) {
            int at = k;
            line(shaken + " code " + m + " " + at, () -> tree().codeAt(shaken, m, at));
        }
        line(shaken + " run " + m + " with 0 0", () -> tree().run(shaken, m, 0, 0));
        line(shaken + " run " + m + " with 7 -2", () -> tree().run(shaken, m, 7, -2));
    }

    private void moved() {
        for (int m = -1; m <= 30; m++) {
            int member = m;
            line("moved " + m, () -> tree().moved(member));
        }
    }

    /** Each on an object of its own, for these calls change something. */
    private void nextCalls() {
        line("next add", () -> story.told().add());
        line("next shake", () -> story.told().shake());
        int classes = tree().count(false, 0);
        for (int c = 0; c < classes; c++) {
            int owner = c;
            line("next INT of " + c, () -> story.told().constant(owner, 0, 1, 0));
            int last = tree().pool(false, c) - 1;
            line("next field of " + c, () -> story.told().member(owner, last, -1));
            line("next method of " + c, () -> story.told().member(owner, last, 1));
        }
        int members = tree().count(false, 1);
        for (int m = 0; m < members; m++) {
            int method = m;
            line("next code of " + m, () -> story.told().code(method, 5, 0));
        }
    }
}
