import java.util.ArrayList;
import java.util.List;
import java.util.NoSuchElementException;

/**
 * A run of calls on a new object for a sentence of the document. Calls that may change nothing are
 * looked at for it: all that can be seen behind them must be as it is without them.
 */
final class Run {
    static final Class<IllegalArgumentException> ARGUMENT = IllegalArgumentException.class;
    static final Class<IllegalStateException> STATE = IllegalStateException.class;
    static final Class<IndexOutOfBoundsException> INDEX = IndexOutOfBoundsException.class;
    static final Class<NoSuchElementException> ELEMENT = NoSuchElementException.class;
    static final Class<UnsupportedOperationException> UNSUPPORTED = UnsupportedOperationException.class;
    static final Class<ArithmeticException> ARITHMETIC = ArithmeticException.class;
    static final int[] WILD = {-1, Integer.MIN_VALUE, Integer.MAX_VALUE, 1 << 30, -(1 << 30), 256, 65536};

    interface Call {
        Object on(EchoWells x) throws Exception;
    }

    private final String name;
    private final EchoWells live = new EchoWells();
    private final List<Call> done = new ArrayList<>();
    private int doneCalls = 0;
    private int liveCalls = 0;
    private int step = 0;
    private Sight sight = null;

    Run(String heading, String sentence) {
        name = heading + ", \"" + sentence + "\"";
        Document.quote(heading, sentence);
    }

    /** A call that may change the state. */
    Run does(Object due, Call call) {
        return keep(1, call, due);
    }

    /** A call that answers and changes nothing. */
    Run asks(Object due, Call call) {
        return leaves(1, call, due);
    }

    /** A call that throws and changes nothing. */
    Run fails(Class<? extends Exception> kind, Call call) {
        return leaves(1, call, "throws." + kind.getName());
    }

    /** A call that is refused: only the reason becomes another one. */
    Run refuses(int number, int detail, Call call) {
        leaves(1, call, "throws." + UNSUPPORTED.getName(), "reason");
        return reasons(number, detail).fails(ELEMENT, x -> x.reason(1, false)).fails(ELEMENT, x -> x.reason(1, true));
    }

    /** A call that writes the line. */
    Run tells(String text, Call call) {
        leaves(1, call, text.length(), "line");
        for (int i = 0; i < text.length(); i++) {
            int index = i;
            keep(1, x -> x.character(index), text.charAt(index));
        }
        return fails(INDEX, x -> x.character(text.length())).fails(INDEX, x -> x.character(-1));
    }

    /** A change that leaves nothing behind when it is undone, but for what is told. */
    Run undoes(Object due, Call call, String... stays) {
        Sight before = sight();
        int changes = live.account(13);
        liveCalls++;
        keep(1, call, due);
        keep(1, EchoWells::undo, changes);
        Check.is(name + told() + " leaves behind", before.differences(sight(), stays), List.of());
        return this;
    }

    /** Changes that leave nothing behind one by one, when they are undone, the latest one first. */
    Run undoesAll(Call... changes) {
        List<Sight> sights = new ArrayList<>();
        for (Call change : changes) {
            sights.add(sight());
            keep(1, change, Check.answer(() -> change.on(other())));
        }
        for (int i = sights.size() - 1; i >= 0; i--) {
            keep(1, EchoWells::undo, i);
            Check.is(name + told() + " leaves behind", sights.get(i).differences(sight()), List.of());
        }
        return this;
    }

    /** Saves, and restores what was saved behind changes: all but the changes that can be undone is as it was. */
    Run restores(int wells, Call... changes) {
        keep(1, EchoWells::save, wells);
        Sight saved = sight();
        for (Call change : changes) {
            keep(1, change, Check.answer(() -> change.on(other())));
        }
        keep(1, EchoWells::restore, wells);
        Check.is(name + told() + " is not as saved", saved.differences(sight(), "undo"), List.of());
        return fails(STATE, EchoWells::undo).asks(0, x -> x.account(13));
    }

    /** Puts letters behind the word. */
    Run says(String word) {
        return keep(word.length() + 1, x -> feedWord(x, word), word.length());
    }

    /** Appends characters to the input. */
    Run feeds(String text) {
        return keep(text.length() + 1, x -> feed(x, text), text.length());
    }

    /** A text that is done. */
    Run runs(String text, int orders) {
        return keep(text.length() + 2, x -> run(x, text), orders).asks(0, x -> x.account(12))
            .asks(-1, x -> x.faultPosition());
    }

    /** A text that is refused: the reason, and that there was no fault, is all that is new. */
    Run refusesText(String text, int index, int number, int detail) {
        leaves(text.length() + 2, x -> run(x, text), "throws." + UNSUPPORTED.getName(), "reason", "fault");
        return reasons(10, index).asks(number, x -> x.reason(1, false)).asks(detail, x -> x.reason(1, true))
            .asks(0, x -> x.account(12)).asks(-1, x -> x.faultPosition());
    }

    /** A text with a fault: its place is all that is new. */
    Run faults(String text, int position) {
        leaves(text.length() + 2, x -> run(x, text), "throws." + ARGUMENT.getName(), "fault");
        return asks(position, x -> x.faultPosition()).asks(0, x -> x.account(12));
    }

    /** The word, which was empty, is shouted into a well, and is what was told before. */
    Run echoes(int well, String word, String echo, int time, int grade) {
        says(word).asks(echo.length(), x -> x.echoLength(well)).asks(time, x -> x.time(well))
            .asks(grade, x -> x.wouldGrade(well)).asks(echo.equals(word), x -> x.isWhole(well));
        for (int i = 0; i < echo.length(); i++) {
            int place = i;
            asks(echo.charAt(place), x -> x.echoLetter(well, place));
        }
        return fails(ELEMENT, x -> x.echoLetter(well, echo.length())).does(grade, x -> x.shout(well))
            .tells(echo, x -> x.tellEcho()).asks(well, x -> x.bookOf(0, 0)).asks(word.length(), x -> x.bookOf(0, 1))
            .asks(echo.length(), x -> x.bookOf(0, 2)).asks(time, x -> x.bookOf(0, 3)).asks(grade, x -> x.bookOf(0, 4));
    }

    /**
     * A state in which there is something of everything: 4 wells, 5 things, a frog that sleeps, 2 ropes,
     * 4 echoes, 7 changes that can be undone, something saved, a word, an input, a line, a reason with a cause.
     */
    Run busy() {
        keep(60, x -> run(x, "dig 9 w;dig 20 m;dig 30 s;coin 0 4 3;coin 0 6 9;frog 0 5 k"), 6);
        keep(54, x -> run(x, "moss 1 9 2;frog 1 1 z;rope 5;rope 30;bind 0 0;fish 0"), 6);
        says("hello").does(7, x -> x.shout(0));
        says("away").does(6, x -> x.shout(1));
        does(3, x -> x.save()).does(2, x -> x.wake());
        says("echo").does(6, x -> x.shout(2));
        says("b").does(7, x -> x.shout(0));
        does(0, x -> x.coin(2, 30, 7)).does(1, x -> x.bind(1, 2)).does(3, x -> x.dig(3, 2));
        does(2, x -> x.rope(12)).does(7, x -> x.undo());
        keep(13, x -> run(x, "wake;fill 9"), "throws." + UNSUPPORTED.getName());
        return says("abe").feeds("dig 3").does(12, x -> x.tellWell(0));
    }

    private Run reasons(int number, int detail) {
        return asks(number, x -> x.reason(0, false)).asks(detail, x -> x.reason(0, true));
    }

    private Run keep(int calls, Call call, Object due) {
        step++;
        sight = null;
        done.add(call);
        doneCalls += calls;
        liveCalls += calls;
        Check.is(name + told() + ": at most 512 calls", liveCalls <= Sight.MOST_CALLS, true);
        Check.is(name + told(), Check.answer(() -> call.on(live)), due);
        return this;
    }

    /** Such a call needs not be done again for later ones, as long as what it may change is not looked at. */
    private Run leaves(int calls, Call call, Object due, String... changes) {
        Sight before = sight();
        keep(calls, call, due);
        sight = Sight.behind(done, doneCalls);
        Check.is(name + told() + " changes", before.differences(sight, changes), List.of());
        if (changes.length == 0) {
            done.remove(done.size() - 1);
            doneCalls -= calls;
        }
        return this;
    }

    private Sight sight() {
        if (sight == null) {
            sight = Sight.behind(done, doneCalls);
        }
        return sight;
    }

    /** Another object on which the same calls were done. */
    private EchoWells other() {
        EchoWells other = new EchoWells();
        for (Call call : done) {
            Check.answer(() -> call.on(other));
        }
        return other;
    }

    private String told() {
        return ", step " + step;
    }

    private static int feedWord(EchoWells x, String word) {
        int before = x.account(4);
        int letters = before;
        for (int i = 0; i < word.length(); i++) {
            letters = x.letter(word.charAt(i));
        }
        return letters - before;
    }

    private static int feed(EchoWells x, String text) {
        int signs = x.account(12);
        int before = signs;
        for (int i = 0; i < text.length(); i++) {
            signs = x.append(text.charAt(i));
        }
        return signs - before;
    }

    private static int run(EchoWells x, String text) {
        feed(x, text);
        return x.run();
    }
}
