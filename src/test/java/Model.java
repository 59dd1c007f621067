import java.util.ArrayList;
import java.util.Comparator;
import java.util.List;
import java.util.NoSuchElementException;
import java.util.regex.Matcher;
import java.util.regex.Pattern;
import java.util.stream.Collectors;

/** The document once more, by other means: with lists, texts and the library, to compare answers with. */
public final class Model {
    private static final Pattern ORDER = Pattern.compile(
        "dig [0-9][0-9]? [swm]|deepen [0-9] [0-9][0-9]?|fill [0-9]|coin [0-9] [0-9][0-9]? [0-9]"
        + "|frog [0-9] [0-9][0-9]? [a-z]|moss [0-9] [0-9][0-9]? [0-9]|take [0-9] [0-9]|wake"
        + "|rope [0-9][0-9]?|bind [0-9] [0-9]|fish [0-9]|shout [0-9] [a-z]{1,8}");
    private static final Pattern TEXT = Pattern.compile("(?:" + ORDER + ")(?:;(?:" + ORDER + "))*");

    private State state = new State();
    private State saved = null;
    private final List<State> before = new ArrayList<>();
    private String word = "";
    private String input = "";
    private String line = "";
    private int fault = -1;
    private int[] reason = null;
    private int[] cause = null;

    public int dig(int depth, int bottom) {
        check(depth >= 1 && depth <= 30, 3, depth);
        check(bottom >= 0 && bottom <= 2, 3, bottom);
        check(state.wells.size() < 8, 1, 8);
        note();
        Well well = new Well();
        well.depth = depth;
        well.bottom = bottom;
        state.wells.add(well);
        return state.wells.size() - 1;
    }

    public int deepen(int well, int metres) {
        check(isWell(well), 2, well);
        check(metres >= 1 && metres <= 29, 3, metres);
        int left = 30 - state.wells.get(well).depth;
        check(metres <= left, 4, left);
        note();
        return state.wells.get(well).depth += metres;
    }

    public int fill(int well) {
        check(isWell(well), 2, well);
        note();
        Well gone = state.wells.remove(well);
        state.ropes.stream().filter(rope -> rope.well == gone).forEach(rope -> rope.well = null);
        return state.wells.size();
    }

    public int coin(int well, int depth, int value) {
        return add(well, depth, value, 1, 9, 'c');
    }

    public int frog(int well, int depth, char letter) {
        return add(well, depth, letter, 'a', 'z', 'f');
    }

    public int moss(int well, int depth, int thickness) {
        return add(well, depth, thickness, 1, 9, 'm');
    }

    public int take(int well, int thing) {
        check(isWell(well), 2, well);
        check(thing >= 0 && thing < state.wells.get(well).things.size(), 2, thing);
        note();
        state.wells.get(well).things.remove(thing);
        return state.wells.get(well).things.size();
    }

    public int wake() {
        note();
        int woken = account(2);
        allThings().forEach(thing -> thing.asleep = false);
        state.woken += woken;
        return woken;
    }

    public int rope(int length) {
        check(length >= 1 && length <= 30, 3, length);
        check(state.ropes.size() < 3, 1, 3);
        note();
        Rope rope = new Rope();
        rope.length = length;
        state.ropes.add(rope);
        return state.ropes.size() - 1;
    }

    public int bind(int rope, int well) {
        check(isRope(rope), 2, rope);
        check(isWell(well), 2, well);
        check(state.ropes.get(rope).well != state.wells.get(well), 6, well);
        note();
        state.ropes.get(rope).well = state.wells.get(well);
        return wellOf(well, 7);
    }

    public int fish(int rope) {
        check(isRope(rope), 2, rope);
        Rope line = state.ropes.get(rope);
        check(line.well != null, 7, line.length);
        check(coinFor(line) != null, 8, (int) line.well.things.stream().filter(thing -> thing.kind == 'c').count());
        note();
        line = state.ropes.get(rope);
        Thing coin = coinFor(line);
        line.well.things.remove(coin);
        line.coins++;
        state.fished += coin.value;
        return coin.value;
    }

    public int letter(char letter) {
        if (!String.valueOf(letter).matches("[a-z]")) {
            throw new IllegalArgumentException();
        }
        if (word.length() == 8) {
            throw new IllegalStateException();
        }
        word += letter;
        return word.length();
    }

    public int shout(int well) {
        int grade = shoutWord(well, word);
        word = "";
        return grade;
    }

    public int wellOf(int well, int what) {
        Well asked = well(well);
        int[] numbers = {
            asked.depth, asked.bottom, asked.things.size(),
            (int) asked.things.stream().filter(thing -> thing.kind == 'c').count(),
            (int) asked.things.stream().filter(thing -> thing.kind == 'f' && !thing.asleep).count(),
            asked.grades.size(), asked.grades.stream().mapToInt(grade -> grade).sum(),
            (int) state.ropes.stream().filter(rope -> rope.well == asked).count()};
        return numberOf(numbers, what);
    }

    public int thingOf(int well, int thing, int what) {
        Well asked = well(well);
        if (thing < 0 || thing >= asked.things.size()) {
            throw new IndexOutOfBoundsException();
        }
        Thing it = asked.things.get(thing);
        int[] numbers = {
            "cfm".indexOf(it.kind), it.depth, it.kind == 'f' ? it.value - 97 : it.value,
            it.kind == 'f' && !it.asleep ? 1 : 0, asked.fromTheTop().indexOf(it)};
        return numberOf(numbers, what);
    }

    public int ropeOf(int rope, int what) {
        Rope it = anyRope(rope);
        return numberOf(new int[] {it.length, state.wells.indexOf(it.well), it.coins}, what);
    }

    public int bookOf(int place, int what) {
        if (place < 0 || place >= Math.min(6, state.echoes.size())) {
            throw new NoSuchElementException();
        }
        Echo echo = state.echoes.get(state.echoes.size() - 1 - place);
        return numberOf(new int[] {echo.well, echo.word.length(), echo.letters.length(), echo.time, echo.grade}, what);
    }

    public int time(int well) {
        return new Echo(well(well), well, "").time;
    }

    public int timeAgain(int well) {
        Well it = well(well);
        return 2 * it.depth + 3 * wellOf(well, 4)
            + it.things.stream().filter(thing -> thing.kind == 'm').mapToInt(thing -> 2 * thing.value).sum();
    }

    public boolean isLater(int one, int other) {
        return timeAgain(one) > timeAgain(other);
    }

    public int echoLength(int well) {
        return echo(well).letters.length();
    }

    public char echoLetter(int well, int place) {
        String letters = echo(well).letters;
        if (place < 0 || place >= letters.length()) {
            throw new NoSuchElementException();
        }
        return letters.charAt(place);
    }

    public int losses(int well) {
        Echo echo = echo(well);
        return echo.word.length() + echo.given - echo.letters.length();
    }

    public int wouldGrade(int well) {
        return echo(well).grade;
    }

    public int bestWell() {
        if (word.isEmpty() || state.wells.isEmpty()) {
            throw new NoSuchElementException();
        }
        List<Echo> all = new ArrayList<>();
        for (int i = 0; i < state.wells.size(); i++) {
            all.add(echo(i));
        }
        all.sort(Comparator.comparingInt((Echo echo) -> -echo.grade).thenComparingInt(echo -> echo.time));
        return all.get(0).well;
    }

    public boolean isWhole(int well) {
        return echo(well).letters.equals(word);
    }

    public int vowels() {
        return word.replaceAll("[^aeiou]", "").length();
    }

    public int reach(int rope) {
        Rope it = anyRope(rope);
        if (it.well == null || coinFor(it) == null) {
            throw new NoSuchElementException();
        }
        return it.well.things.indexOf(coinFor(it));
    }

    public int ranked(int kind, int place) {
        if (kind < 0 || kind > 3) {
            throw new IllegalArgumentException();
        }
        if (place < 0 || place >= state.wells.size()) {
            throw new NoSuchElementException();
        }
        List<Integer> wells = new ArrayList<>();
        for (int i = 0; i < state.wells.size(); i++) {
            wells.add(i);
        }
        wells.sort(Comparator.comparingInt(
            i -> -(kind == 1 ? timeAgain(i) : wellOf(i, kind == 0 ? 0 : kind == 2 ? 2 : 5))));
        return wells.get(place);
    }

    public boolean isTold() {
        return true;
    }

    public int append(char character) {
        if (character < ' ' || character > '~') {
            throw new IllegalArgumentException();
        }
        if (input.length() == 60) {
            throw new IllegalStateException();
        }
        input += character;
        return input.length();
    }

    public int run() {
        String text = input;
        input = "";
        fault = faultOf(text);
        if (fault >= 0) {
            throw new IllegalArgumentException();
        }
        State start = state;
        List<State> older = new ArrayList<>(before);
        String[] orders = text.split(";");
        for (int i = 0; i < orders.length; i++) {
            try {
                obey(orders[i].split(" "));
            } catch (UnsupportedOperationException refused) {
                state = start;
                before.clear();
                before.addAll(older);
                cause = reason;
                reason = new int[] {10, i};
                throw refused;
            }
        }
        before.clear();
        before.addAll(older);
        keep(start);
        return orders.length;
    }

    public int faultPosition() {
        return fault;
    }

    public int reason(int depth, boolean isDetail) {
        if (depth != 0 && depth != 1) {
            throw new IllegalArgumentException();
        }
        int[] asked = depth == 0 ? reason : cause;
        if (asked == null) {
            throw new NoSuchElementException();
        }
        return asked[isDetail ? 1 : 0];
    }

    public int tellWord() {
        return tell(word);
    }

    public int tellEcho() {
        return tell(state.echoes.isEmpty() ? "" : state.echoes.get(state.echoes.size() - 1).letters);
    }

    public int tellWell(int well) {
        Well it = well(well);
        return tell(it.depth + "swm".substring(it.bottom, it.bottom + 1)
            + it.things.stream().map(Thing::told).collect(Collectors.joining()));
    }

    public char character(int index) {
        if (index < 0 || index >= line.length()) {
            throw new IndexOutOfBoundsException();
        }
        return line.charAt(index);
    }

    public int account(int what) {
        int shouted = state.echoes.stream().mapToInt(echo -> echo.word.length()).sum();
        int given = state.echoes.stream().mapToInt(echo -> echo.given).sum();
        int letters = state.echoes.stream().mapToInt(echo -> echo.letters.length()).sum();
        int[] numbers = {
            state.wells.size(), allThings().size(), (int) allThings().stream().filter(thing -> thing.asleep).count(),
            state.ropes.size(), word.length(), state.echoes.size(), shouted, shouted + given - letters, given,
            letters, state.fished, state.woken, input.length(), before.size()};
        return numberOf(numbers, what);
    }

    public double meanGrade() {
        if (state.echoes.isEmpty()) {
            throw new ArithmeticException();
        }
        return (double) state.echoes.stream().mapToInt(echo -> echo.grade).sum() / state.echoes.size();
    }

    public float lostShare() {
        if (state.echoes.isEmpty()) {
            throw new ArithmeticException();
        }
        return (float) account(7) / (account(6) + account(8));
    }

    public int undo() {
        if (before.isEmpty()) {
            throw new IllegalStateException();
        }
        state = before.remove(before.size() - 1);
        return before.size();
    }

    public int save() {
        saved = new State(state);
        return state.wells.size();
    }

    public int restore() {
        if (saved == null) {
            throw new IllegalStateException();
        }
        state = new State(saved);
        before.clear();
        return state.wells.size();
    }

    /** The fault is the end of the longest beginning that more characters could make a text of. */
    static int faultOf(String text) {
        if (TEXT.matcher(text).matches()) {
            return -1;
        }
        int good = 0;
        while (good < text.length() && isBeginning(text.substring(0, good + 1))) {
            good++;
        }
        return good;
    }

    private static boolean isBeginning(String text) {
        Matcher matcher = TEXT.matcher(text);
        return matcher.matches() || matcher.hitEnd();
    }

    private void obey(String[] words) {
        int[] n = new int[words.length];
        for (int i = 1; i < words.length; i++) {
            n[i] = words[i].matches("[0-9]+") ? Integer.parseInt(words[i]) : "swm".indexOf(words[i]);
        }
        switch (words[0]) {
            case "dig" -> dig(n[1], n[2]);
            case "deepen" -> deepen(n[1], n[2]);
            case "fill" -> fill(n[1]);
            case "coin" -> coin(n[1], n[2], n[3]);
            case "frog" -> frog(n[1], n[2], words[3].charAt(0));
            case "moss" -> moss(n[1], n[2], n[3]);
            case "take" -> take(n[1], n[2]);
            case "wake" -> wake();
            case "rope" -> rope(n[1]);
            case "bind" -> bind(n[1], n[2]);
            case "fish" -> fish(n[1]);
            case "shout" -> shoutWord(n[1], words[2]);
            default -> throw new AssertionError(words[0]);
        }
    }

    private int add(int well, int depth, int value, int least, int most, char kind) {
        check(isWell(well), 2, well);
        check(depth >= 1 && depth <= 30, 3, depth);
        check(value >= least && value <= most, 3, value);
        check(depth <= state.wells.get(well).depth, 5, state.wells.get(well).depth);
        check(state.wells.get(well).things.size() < 5, 1, 5);
        note();
        Thing thing = new Thing();
        thing.kind = kind;
        thing.depth = depth;
        thing.value = value;
        state.wells.get(well).things.add(thing);
        return state.wells.get(well).things.size() - 1;
    }

    private int shoutWord(int well, String shouted) {
        check(isWell(well), 2, well);
        check(!shouted.isEmpty(), 9, state.echoes.size());
        note();
        Well it = state.wells.get(well);
        Echo echo = new Echo(it, well, shouted);
        it.things.forEach(thing -> thing.asleep = thing.kind == 'f');
        it.grades.add(echo.grade);
        state.echoes.add(echo);
        return echo.grade;
    }

    private Echo echo(int well) {
        Well it = well(well);
        if (word.isEmpty()) {
            throw new NoSuchElementException();
        }
        return new Echo(it, well, word);
    }

    private Thing coinFor(Rope rope) {
        return rope.well.fromTheTop().stream()
            .filter(thing -> thing.kind == 'c' && thing.depth <= rope.length).findFirst().orElse(null);
    }

    private List<Thing> allThings() {
        return state.wells.stream().flatMap(well -> well.things.stream()).collect(Collectors.toList());
    }

    private Well well(int number) {
        if (!isWell(number)) {
            throw new IndexOutOfBoundsException();
        }
        return state.wells.get(number);
    }

    private Rope anyRope(int number) {
        if (!isRope(number)) {
            throw new IndexOutOfBoundsException();
        }
        return state.ropes.get(number);
    }

    private boolean isWell(int number) {
        return number >= 0 && number < state.wells.size();
    }

    private boolean isRope(int number) {
        return number >= 0 && number < state.ropes.size();
    }

    private void check(boolean isAllowed, int number, int detail) {
        if (!isAllowed) {
            reason = new int[] {number, detail};
            cause = null;
            throw new UnsupportedOperationException();
        }
    }

    /** Puts the state aside and goes on with a copy of it. */
    private void note() {
        keep(state);
        state = new State(state);
    }

    private void keep(State start) {
        before.add(start);
        if (before.size() > 8) {
            before.remove(0);
        }
    }

    private int tell(String told) {
        line = told;
        return told.length();
    }

    private static int numberOf(int[] numbers, int what) {
        if (what < 0 || what >= numbers.length) {
            throw new IllegalArgumentException();
        }
        return numbers[what];
    }

    private static final class Thing {
        private char kind;
        private int depth;
        private int value;
        private boolean asleep;

        private String told() {
            String letter = String.valueOf((char) value);
            String shown = kind != 'f' ? "" + value : asleep ? letter : letter.toUpperCase();
            return " " + kind + shown + "@" + depth;
        }
    }

    private static final class Well {
        private int depth;
        private int bottom;
        private final List<Thing> things = new ArrayList<>();
        private final List<Integer> grades = new ArrayList<>();

        private List<Thing> fromTheTop() {
            return things.stream().sorted(Comparator.comparingInt(thing -> thing.depth)).collect(Collectors.toList());
        }
    }

    private static final class Rope {
        private int length;
        private Well well;
        private int coins;
    }

    /** An echo, which is found without a change of the well. */
    private static final class Echo {
        private final int well;
        private final String word;
        private final String letters;
        private final int time;
        private final int grade;
        private final int given;

        private Echo(Well it, int well, String word) {
            this.well = well;
            this.word = word;
            String left = word;
            int units = 0;
            int answers = 0;
            for (int metre = 1; metre <= it.depth; metre++) {
                units += 2;
                for (Thing thing : it.things) {
                    if (thing.depth == metre && thing.kind == 'f' && !thing.asleep) {
                        left += (char) thing.value;
                        units += 3;
                        answers++;
                    } else if (thing.depth == metre && thing.kind != 'f') {
                        left = past(thing, left);
                        units += thing.kind == 'm' ? thing.value : 0;
                    }
                }
            }
            left = it.bottom == 0 ? left
                : it.bottom == 1 ? new StringBuilder(left).reverse().toString() : left.replaceAll("[aeiou]", "");
            for (int metre = it.depth; metre >= 1; metre--) {
                for (int i = it.things.size() - 1; i >= 0; i--) {
                    if (it.things.get(i).depth == metre && it.things.get(i).kind != 'f') {
                        left = past(it.things.get(i), left);
                        units += it.things.get(i).kind == 'm' ? it.things.get(i).value : 0;
                    }
                }
            }
            letters = left;
            time = units;
            given = answers;
            grade = Math.max(0, 9 - Math.abs(word.length() - left.length()) - units / 20);
        }

        private static String past(Thing thing, String left) {
            return thing.kind == 'c' ? left.replaceFirst(".$", "") : left.replaceFirst("[aeiou]", "");
        }
    }

    private static final class State {
        private final List<Well> wells = new ArrayList<>();
        private final List<Rope> ropes = new ArrayList<>();
        private final List<Echo> echoes = new ArrayList<>();
        private int fished;
        private int woken;

        private State() {
        }

        private State(State other) {
            for (Well well : other.wells) {
                Well copy = new Well();
                copy.depth = well.depth;
                copy.bottom = well.bottom;
                copy.grades.addAll(well.grades);
                for (Thing thing : well.things) {
                    Thing same = new Thing();
                    same.kind = thing.kind;
                    same.depth = thing.depth;
                    same.value = thing.value;
                    same.asleep = thing.asleep;
                    copy.things.add(same);
                }
                wells.add(copy);
            }
            for (Rope rope : other.ropes) {
                Rope copy = new Rope();
                copy.length = rope.length;
                copy.coins = rope.coins;
                copy.well = rope.well == null ? null : wells.get(other.wells.indexOf(rope.well));
                ropes.add(copy);
            }
            echoes.addAll(other.echoes);
            fished = other.fished;
            woken = other.woken;
        }
    }
}
