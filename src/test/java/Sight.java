import java.util.ArrayList;
import java.util.LinkedHashMap;
import java.util.List;
import java.util.Map;
import java.util.TreeSet;

/**
 * All that an object lets see of its state, each answer under a name. Some can only be seen by calls
 * that change it, so that each of the looks needs a new object on which the same calls were done.
 */
final class Sight {
    static final int MOST_CALLS = 512;
    private static final int LOOKS = 5;
    private static final int MOST_CHANGES = 8;

    private final Map<String, Object> seen = new LinkedHashMap<>();
    private EchoWells x;
    private int calls;

    /** The sight of the state behind calls, of which there are as many as told in all. */
    static Sight behind(List<Run.Call> done, int doneCalls) {
        Sight sight = new Sight();
        for (int look = 0; look < LOOKS; look++) {
            sight.x = new EchoWells();
            sight.calls = doneCalls;
            for (Run.Call call : done) {
                Check.answer(() -> call.on(sight.x));
            }
            sight.look(look);
            Check.is("calls of one object, at most " + MOST_CALLS, sight.calls <= MOST_CALLS, true);
        }
        return sight;
    }

    /** What is not the same as in another sight, but for what has a name that begins in one of these ways. */
    List<String> differences(Sight other, String... allowed) {
        List<String> differences = new ArrayList<>();
        TreeSet<String> names = new TreeSet<>(seen.keySet());
        names.addAll(other.seen.keySet());
        for (String name : allowed) {
            names.removeIf(one -> one.startsWith(name));
        }
        for (String name : names) {
            Object before = String.valueOf(seen.get(name));
            Object after = String.valueOf(other.seen.get(name));
            if (!before.equals(after)) {
                differences.add(name + " from " + before + " to " + after);
            }
        }
        return differences;
    }

    private void look(int look) {
        switch (look) {
            case 0:
                texts();
                break;
            case 1:
                numbers("");
                break;
            case 2:
                for (int i = 0; i <= MOST_CHANGES && see("undo " + i, y -> y.undo()); i++) {
                    numbers("undo " + i + " ");
                }
                break;
            case 3:
                see("saved", y -> y.restore());
                numbers("saved ");
                things("saved ");
                break;
            default:
                things("");
                see("input", y -> y.run());
                see("input fault", y -> y.faultPosition());
                numbers("input ");
                break;
        }
    }

    private void texts() {
        line("line ");
        see("fault", y -> y.faultPosition());
        for (int i = 0; i < 2; i++) {
            int depth = i;
            see("reason " + depth, y -> y.reason(depth, false));
            see("reason detail " + depth, y -> y.reason(depth, true));
        }
        see("input size", y -> y.account(12));
        see("word size", y -> y.account(4));
        see("word vowels", y -> y.vowels());
        see("undo count", y -> y.account(13));
        see("word told", y -> y.tellWord());
        line("word ");
        see("echo told", y -> y.tellEcho());
        line("echo ");
    }

    private void line(String name) {
        for (int i = 0; i <= 60; i++) {
            int index = i;
            if (!see(name + index, y -> y.character(index))) {
                return;
            }
        }
    }

    private void numbers(String name) {
        for (int what = 0; what <= 11; what++) {
            int number = what;
            if (number != 4) {
                see(name + "account " + number, y -> y.account(number));
            }
        }
        see(name + "meanGrade", y -> y.meanGrade());
        see(name + "book", y -> y.bookOf(0, 4));
        see(name + "last in the book", y -> y.bookOf(5, 3));
        for (int i = 0; i < 8 && see(name + "depth " + i, at(i, 0)); i++) {
            see(name + "things " + i, at(i, 2));
        }
        for (int i = 0; i < 3 && see(name + "length " + i, ropeAt(i, 0)); i++) {
            see(name + "bound " + i, ropeAt(i, 1));
        }
    }

    private void things(String name) {
        for (int i = 0; i < 8 && see(name + "bottom " + i, at(i, 1)); i++) {
            for (int what = 3; what <= 7; what++) {
                see(name + "well " + i + ", " + what, at(i, what));
            }
            things(name, i);
        }
        for (int i = 0; i < 3; i++) {
            see(name + "coins " + i, ropeAt(i, 2));
        }
        for (int place = 0; place < 6; place++) {
            for (int what = 0; what <= 4; what++) {
                int[] asked = {place, what};
                see(name + "book " + place + ", " + what, y -> y.bookOf(asked[0], asked[1]));
            }
        }
    }

    private void things(String name, int well) {
        for (int thing = 0; thing < 5; thing++) {
            for (int what = 0; what <= 4; what++) {
                int[] asked = {thing, what};
                boolean isThere = see(name + "thing " + well + ", " + thing + ", " + what,
                    y -> y.thingOf(well, asked[0], asked[1]));
                if (!isThere) {
                    return;
                }
            }
        }
    }

    private static Run.Call at(int well, int what) {
        return y -> y.wellOf(well, what);
    }

    private static Run.Call ropeAt(int rope, int what) {
        return y -> y.ropeOf(rope, what);
    }

    /** Keeps the answer, and tells whether there was one. */
    private boolean see(String name, Run.Call call) {
        calls++;
        Object answer = Check.answer(() -> call.on(x));
        seen.put(name, answer);
        return !String.valueOf(answer).startsWith("throws.");
    }
}
