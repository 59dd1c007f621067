import java.util.NoSuchElementException;

/** Grades the echoes of words that are shouted into wells. */
public final class EchoWells {
    private static final int MOST_WELLS = 8;
    private static final int MOST_THINGS = 5;
    private static final int MOST_ROPES = 3;
    private static final int MOST_METRES = 30;
    private static final int MOST_METRES_MORE = 29;
    private static final int MOST_VALUE = 9;
    private static final int MOST_LETTERS = 8;
    private static final int MOST_SIGNS = 60;
    private static final int MOST_CHANGES = 8;
    private static final int MOST_IN_BOOK = 6;
    private static final int BOOK_NUMBERS = 5;
    private static final int ORDER_NUMBERS = 3;

    private static final int STONE = 0;
    private static final int WATER = 1;
    private static final int MUD = 2;

    private static final int COIN_KIND = 0;
    private static final int FROG_KIND = 1;
    private static final int MOSS_KIND = 2;

    private static final int BEST_GRADE = 9;
    private static final int TIME_OF_METRE = 2;
    private static final int TIME_OF_FROG = 3;
    private static final int TIME_OF_GRADE = 20;

    private static final int TOO_MANY = 1;
    private static final int NOT_THERE = 2;
    private static final int OUT_OF_RANGE = 3;
    private static final int TOO_DEEP = 4;
    private static final int NOT_SO_DEEP = 5;
    private static final int SO_ALREADY = 6;
    private static final int NOT_BOUND = 7;
    private static final int NO_COIN = 8;
    private static final int NO_WORD = 9;
    private static final int ORDER_REFUSED = 10;

    /** No answer of a change is below 0, so that this one can tell that it was refused. */
    private static final int REFUSED = -1;
    private static final int NONE = -1;
    private static final char NO_SIGN = (char) 0;

    private static final Order[] ORDERS = Order.values();

    private final World world;
    private final World saved;
    private final History history;
    private final Keeper keeper;
    private final Reader reader;
    private final Way way;
    private final Letters word;
    private final Letters noWord;
    private final Letters input;
    private final Letters line;
    private boolean isSaved;
    private int fault;

    public EchoWells() {
        world = new World();
        saved = new World();
        history = new History();
        keeper = new Keeper();
        reader = new Reader();
        way = new Way();
        word = new Letters();
        noWord = new Letters();
        input = new Letters();
        line = new Letters();
        fault = NONE;
    }

    public int dig(int depth, int bottom) throws UnsupportedOperationException {
        return changed(Order.DIG, depth, bottom, 0);
    }

    public int deepen(int well, int metres) throws UnsupportedOperationException {
        return changed(Order.DEEPEN, well, metres, 0);
    }

    public int fill(int well) throws UnsupportedOperationException {
        return changed(Order.FILL, well, 0, 0);
    }

    public int coin(int well, int depth, int value) throws UnsupportedOperationException {
        return changed(Order.COIN, well, depth, value);
    }

    public int frog(int well, int depth, char letter) throws UnsupportedOperationException {
        return changed(Order.FROG, well, depth, letter);
    }

    public int moss(int well, int depth, int thickness) throws UnsupportedOperationException {
        return changed(Order.MOSS, well, depth, thickness);
    }

    public int take(int well, int thing) throws UnsupportedOperationException {
        return changed(Order.TAKE, well, thing, 0);
    }

    public int wake() {
        return changed(Order.WAKE, 0, 0, 0);
    }

    public int rope(int length) throws UnsupportedOperationException {
        return changed(Order.ROPE, length, 0, 0);
    }

    public int bind(int rope, int well) throws UnsupportedOperationException {
        return changed(Order.BIND, rope, well, 0);
    }

    public int fish(int rope) throws UnsupportedOperationException {
        return changed(Order.FISH, rope, 0, 0);
    }

    public int letter(char letter) throws IllegalArgumentException, IllegalStateException {
        if (!isLetter(letter)) {
            throw new IllegalArgumentException();
        }
        if (word.size() >= MOST_LETTERS) {
            throw new IllegalStateException();
        }
        word.put(letter);
        return word.size();
    }

    public int shout(int well) throws UnsupportedOperationException {
        int grade = changed(Order.SHOUT, well, 0, 0);
        word.clear();
        return grade;
    }

    public int wellOf(int well, int what) throws IndexOutOfBoundsException, IllegalArgumentException {
        Well asked = askedWell(well);
        switch (what) {
            case 0:
                return asked.depth;
            case 1:
                return asked.bottom;
            case 2:
                return asked.things;
            case 3:
                return asked.countOf(COIN_KIND);
            case 4:
                return asked.countOfFrogs(true);
            case 5:
                return asked.echoes;
            case 6:
                return asked.grades;
            case 7:
                return world.ropesAt(well);
            default:
                throw new IllegalArgumentException();
        }
    }

    public int thingOf(int well, int thing, int what) throws IndexOutOfBoundsException, IllegalArgumentException {
        Well asked = askedWell(well);
        if (!asked.hasThing(thing)) {
            throw new IndexOutOfBoundsException();
        }
        switch (what) {
            case 0:
                return asked.kindOf(thing);
            case 1:
                return asked.depthOf(thing);
            case 2:
                return asked.kindOf(thing) == FROG_KIND ? asked.valueOf(thing) - 'a' : asked.valueOf(thing);
            case 3:
                return asked.isAwake(thing) ? 1 : 0;
            case 4:
                return asked.placeOf(thing);
            default:
                throw new IllegalArgumentException();
        }
    }

    public int ropeOf(int rope, int what) throws IndexOutOfBoundsException, IllegalArgumentException {
        Rope asked = askedRope(rope);
        switch (what) {
            case 0:
                return asked.length;
            case 1:
                return asked.well;
            case 2:
                return asked.coins;
            default:
                throw new IllegalArgumentException();
        }
    }

    public int bookOf(int place, int what) throws NoSuchElementException, IllegalArgumentException {
        if (place < 0 || place >= world.book.echoes) {
            throw new NoSuchElementException();
        }
        if (what < 0 || what >= BOOK_NUMBERS) {
            throw new IllegalArgumentException();
        }
        return world.book.numberAt(place, what);
    }

    public int time(int well) throws IndexOutOfBoundsException {
        return timeOnTheWay(askedWell(well));
    }

    public int timeAgain(int well) throws IndexOutOfBoundsException {
        return askedWell(well).timeByKinds();
    }

    public boolean isLater(int one, int other) throws IndexOutOfBoundsException {
        Well first = askedWell(one);
        Well second = askedWell(other);
        return timeOnTheWay(first) > timeOnTheWay(second);
    }

    public int echoLength(int well) throws IndexOutOfBoundsException, NoSuchElementException {
        sendWord(well);
        return way.letters.size();
    }

    public char echoLetter(int well, int place) throws IndexOutOfBoundsException, NoSuchElementException {
        sendWord(well);
        if (place < 0 || place >= way.letters.size()) {
            throw new NoSuchElementException();
        }
        return way.letters.at(place);
    }

    public int losses(int well) throws IndexOutOfBoundsException, NoSuchElementException {
        sendWord(well);
        return way.lost;
    }

    public int wouldGrade(int well) throws IndexOutOfBoundsException, NoSuchElementException {
        sendWord(well);
        return way.gradeFor(word);
    }

    public int bestWell() throws NoSuchElementException {
        int best = NONE;
        int bestGrade = 0;
        int bestTime = 0;
        for (int i = 0; i < world.wellCount; i++) {
            sendWord(i);
            int grade = way.gradeFor(word);
            boolean isBetter = grade > bestGrade || grade == bestGrade && way.time < bestTime;
            if (best == NONE || isBetter) {
                best = i;
                bestGrade = grade;
                bestTime = way.time;
            }
        }
        if (best == NONE) {
            throw new NoSuchElementException();
        }
        return best;
    }

    public boolean isWhole(int well) throws IndexOutOfBoundsException, NoSuchElementException {
        sendWord(well);
        return way.letters.isSame(word);
    }

    public int vowels() {
        return word.countOfVowels();
    }

    public int reach(int rope) throws IndexOutOfBoundsException, NoSuchElementException {
        Rope asked = askedRope(rope);
        Well well = world.wellAt(asked.well);
        int coin = well == null ? NONE : well.uppermostCoin(asked.length);
        if (coin == NONE) {
            throw new NoSuchElementException();
        }
        return coin;
    }

    public int ranked(int kind, int place) throws IllegalArgumentException, NoSuchElementException {
        if (kind < 0 || kind > 3) {
            throw new IllegalArgumentException();
        }
        for (int i = 0; i < world.wellCount; i++) {
            if (rankOf(i, kind) == place) {
                return i;
            }
        }
        throw new NoSuchElementException();
    }

    public boolean isTold() {
        for (int i = 0; i < world.wellCount; i++) {
            Well well = world.wellAt(i);
            if (well != null && (timeOnTheWay(well) != well.timeByKinds() || well.hasThingBelow())) {
                return false;
            }
        }
        return world.echoed == world.shouted + world.given - world.lost;
    }

    public int append(char character) throws IllegalArgumentException, IllegalStateException {
        if (character < 32 || character > 126) {
            throw new IllegalArgumentException();
        }
        if (input.size() >= MOST_SIGNS) {
            throw new IllegalStateException();
        }
        input.put(character);
        return input.size();
    }

    public int run() throws IllegalArgumentException, UnsupportedOperationException {
        int orders = reader.countOrders(input);
        input.clear();
        fault = orders == NONE ? reader.place : NONE;
        if (orders == NONE) {
            throw new IllegalArgumentException();
        }
        history.look(world);
        if (!areObeyed(orders)) {
            history.takeBack(world);
            throw new UnsupportedOperationException();
        }
        history.keep();
        return orders;
    }

    public int faultPosition() {
        return fault;
    }

    public int reason(int depth, boolean isDetail) throws IllegalArgumentException, NoSuchElementException {
        if (depth < 0 || depth > 1) {
            throw new IllegalArgumentException();
        }
        Refusal refusal = depth == 0 ? keeper.refusal : keeper.cause;
        if (refusal.number == 0) {
            throw new NoSuchElementException();
        }
        return isDetail ? refusal.detail : refusal.number;
    }

    public int tellWord() {
        line.copy(word);
        return line.size();
    }

    public int tellEcho() {
        line.copy(world.book.latest);
        return line.size();
    }

    public int tellWell(int well) throws IndexOutOfBoundsException {
        Well asked = askedWell(well);
        line.clear();
        line.putNumber(asked.depth);
        line.put(asked.bottom == STONE ? 's' : asked.bottom == WATER ? 'w' : 'm');
        for (int i = 0; i < asked.things; i++) {
            tellThing(asked, i);
        }
        return line.size();
    }

    public char character(int index) throws IndexOutOfBoundsException {
        if (index < 0 || index >= line.size()) {
            throw new IndexOutOfBoundsException();
        }
        return line.at(index);
    }

    public int account(int what) throws IllegalArgumentException {
        switch (what) {
            case 0:
                return world.wellCount;
            case 1:
                return world.countOfThings();
            case 2:
                return world.countOfSleepers();
            case 3:
                return world.ropeCount;
            case 4:
                return word.size();
            case 5:
                return world.echoes;
            case 6:
                return world.shouted;
            case 7:
                return world.lost;
            case 8:
                return world.given;
            case 9:
                return world.echoed;
            case 10:
                return world.fished;
            case 11:
                return world.woken;
            case 12:
                return input.size();
            case 13:
                return history.count;
            default:
                throw new IllegalArgumentException();
        }
    }

    public double meanGrade() throws ArithmeticException {
        if (world.echoes == 0) {
            throw new ArithmeticException();
        }
        return (double) world.grades / (double) world.echoes;
    }

    public float lostShare() throws ArithmeticException {
        int letters = world.shouted + world.given;
        if (world.echoes == 0 || letters == 0) {
            throw new ArithmeticException();
        }
        return (float) world.lost / (float) letters;
    }

    public int undo() throws IllegalStateException {
        if (history.count == 0) {
            throw new IllegalStateException();
        }
        history.goBack(world);
        return history.count;
    }

    public int save() {
        saved.copy(world);
        isSaved = true;
        return world.wellCount;
    }

    public int restore() throws IllegalStateException {
        if (!isSaved) {
            throw new IllegalStateException();
        }
        world.copy(saved);
        history.forget();
        return world.wellCount;
    }

    private int changed(Order order, int first, int second, int third) {
        history.look(world);
        int answer = keeper.obey(world, order, first, second, third, word);
        if (answer == REFUSED) {
            throw new UnsupportedOperationException();
        }
        history.keep();
        return answer;
    }

    private boolean areObeyed(int orders) {
        reader.rewind();
        for (int i = 0; i < orders; i++) {
            reader.readOrder();
            int first = reader.numberAt(0);
            int second = reader.numberAt(1);
            int third = reader.numberAt(2);
            if (keeper.obey(world, reader.order, first, second, third, reader.word) == REFUSED) {
                keeper.refuseOrder(i);
                return false;
            }
            reader.readSign(';');
        }
        return true;
    }

    private Well askedWell(int number) {
        Well well = world.wellAt(number);
        if (well == null) {
            throw new IndexOutOfBoundsException();
        }
        return well;
    }

    private Rope askedRope(int number) {
        Rope rope = world.ropeAt(number);
        if (rope == null) {
            throw new IndexOutOfBoundsException();
        }
        return rope;
    }

    private void sendWord(int number) {
        Well well = askedWell(number);
        if (word.size() == 0) {
            throw new NoSuchElementException();
        }
        way.go(well, word);
    }

    private int timeOnTheWay(Well well) {
        way.go(well, noWord);
        return way.time;
    }

    private int rankOf(int number, int kind) {
        int own = measureOf(number, kind);
        int rank = 0;
        for (int i = 0; i < world.wellCount; i++) {
            int other = measureOf(i, kind);
            if (other > own || other == own && i < number) {
                rank++;
            }
        }
        return rank;
    }

    private int measureOf(int number, int kind) {
        Well well = world.wellAt(number);
        if (well == null) {
            return 0;
        }
        switch (kind) {
            case 0:
                return well.depth;
            case 1:
                return well.timeByKinds();
            case 2:
                return well.things;
            default:
                return well.echoes;
        }
    }

    private void tellThing(Well well, int thing) {
        int kind = well.kindOf(thing);
        int value = well.valueOf(thing);
        line.put(' ');
        line.put(kind == COIN_KIND ? 'c' : kind == FROG_KIND ? 'f' : 'm');
        if (kind == FROG_KIND) {
            line.put((char) (well.isAwake(thing) ? value - 'a' + 'A' : value));
        } else {
            line.putNumber(value);
        }
        line.put('@');
        line.putNumber(well.depthOf(thing));
    }

    private static boolean isLetter(int code) {
        return code >= 'a' && code <= 'z';
    }

    private static boolean isVowel(char letter) {
        return letter == 'a' || letter == 'e' || letter == 'i' || letter == 'o' || letter == 'u';
    }

    /** The orders, with their words in texts and a sign for each part that follows them. */
    private enum Order {
        DIG("dig ", "n b"),
        DEEPEN("deepen ", "d n"),
        FILL("fill ", "d"),
        COIN("coin ", "d n d"),
        FROG("frog ", "d n l"),
        MOSS("moss ", "d n d"),
        TAKE("take ", "d d"),
        WAKE("wake", ""),
        ROPE("rope ", "n"),
        BIND("bind ", "d d"),
        FISH("fish ", "d"),
        SHOUT("shout ", "d w");

        private final String name;
        private final String form;

        Order(String name, String form) {
            this.name = name;
            this.form = form;
        }
    }

    /** A row of characters that has room for the longest that there can be, a full input. */
    private static final class Letters {
        private final char[] signs;
        private int count;

        Letters() {
            signs = new char[MOST_SIGNS];
        }

        int size() {
            return count;
        }

        char at(int place) {
            return place >= 0 && place < count && place < signs.length ? signs[place] : NO_SIGN;
        }

        void put(char sign) {
            if (count >= 0 && count < signs.length) {
                signs[count] = sign;
                count++;
            }
        }

        void putNumber(int number) {
            if (number >= 10) {
                put((char) ('0' + number / 10 % 10));
            }
            put((char) ('0' + number % 10));
        }

        void clear() {
            count = 0;
        }

        void copy(Letters other) {
            clear();
            for (int i = 0; i < other.count; i++) {
                put(other.at(i));
            }
        }

        boolean isSame(Letters other) {
            if (count != other.count) {
                return false;
            }
            for (int i = 0; i < count; i++) {
                if (at(i) != other.at(i)) {
                    return false;
                }
            }
            return true;
        }

        int countOfVowels() {
            int vowels = 0;
            for (int i = 0; i < count; i++) {
                if (isVowel(at(i))) {
                    vowels++;
                }
            }
            return vowels;
        }

        void cutLast() {
            if (count > 0) {
                count--;
            }
        }

        void cutFirstVowel() {
            int place = 0;
            while (place < count && !isVowel(at(place))) {
                place++;
            }
            cutAt(place);
        }

        void cutVowels() {
            int all = count;
            clear();
            for (int i = 0; i < all && i < signs.length; i++) {
                if (!isVowel(signs[i])) {
                    put(signs[i]);
                }
            }
        }

        void turn() {
            int low = 0;
            int high = count - 1;
            while (low >= 0 && low < high && high < signs.length) {
                char sign = signs[low];
                signs[low] = signs[high];
                signs[high] = sign;
                low++;
                high--;
            }
        }

        private void cutAt(int place) {
            if (place < 0 || place >= count) {
                return;
            }
            for (int i = place + 1; i < count && i < signs.length; i++) {
                signs[i - 1] = signs[i];
            }
            count--;
        }
    }

    /** A well with the things in it, each of which has one number at its place in every row. */
    private static final class Well {
        private final int[] kinds;
        private final int[] depths;
        private final int[] values;
        private final boolean[] wakes;
        private int things;
        private int depth;
        private int bottom;
        private int echoes;
        private int grades;

        Well() {
            kinds = new int[MOST_THINGS];
            depths = new int[MOST_THINGS];
            values = new int[MOST_THINGS];
            wakes = new boolean[MOST_THINGS];
        }

        void open(int newDepth, int newBottom) {
            things = 0;
            depth = newDepth;
            bottom = newBottom;
            echoes = 0;
            grades = 0;
        }

        void copy(Well other) {
            things = other.things;
            depth = other.depth;
            bottom = other.bottom;
            echoes = other.echoes;
            grades = other.grades;
            for (int i = 0; i < things; i++) {
                set(i, other.kindOf(i), other.depthOf(i), other.valueOf(i), other.isAwake(i));
            }
        }

        boolean hasThing(int thing) {
            return thing >= 0 && thing < things;
        }

        int kindOf(int thing) {
            return thing >= 0 && thing < kinds.length ? kinds[thing] : NONE;
        }

        int depthOf(int thing) {
            return thing >= 0 && thing < depths.length ? depths[thing] : 0;
        }

        int valueOf(int thing) {
            return thing >= 0 && thing < values.length ? values[thing] : 0;
        }

        boolean isAwake(int thing) {
            return thing >= 0 && thing < wakes.length && wakes[thing];
        }

        int add(int kind, int thingDepth, int value) {
            int thing = things;
            set(thing, kind, thingDepth, value, kind == FROG_KIND);
            things++;
            return thing;
        }

        void remove(int thing) {
            if (!hasThing(thing)) {
                return;
            }
            for (int i = thing + 1; i < things; i++) {
                set(i - 1, kindOf(i), depthOf(i), valueOf(i), isAwake(i));
            }
            things--;
        }

        int placeOf(int thing) {
            int own = depthOf(thing);
            int place = 0;
            for (int i = 0; i < things && i < depths.length; i++) {
                if (depths[i] < own || depths[i] == own && i < thing) {
                    place++;
                }
            }
            return place;
        }

        int thingAt(int place) {
            for (int i = 0; i < things; i++) {
                if (placeOf(i) == place) {
                    return i;
                }
            }
            return NONE;
        }

        int uppermostCoin(int length) {
            int coin = NONE;
            for (int i = 0; i < things; i++) {
                boolean isReached = kindOf(i) == COIN_KIND && depthOf(i) <= length;
                if (isReached && (coin == NONE || depthOf(i) < depthOf(coin))) {
                    coin = i;
                }
            }
            return coin;
        }

        int countOf(int kind) {
            int all = 0;
            for (int i = 0; i < things; i++) {
                if (kindOf(i) == kind) {
                    all++;
                }
            }
            return all;
        }

        int countOfFrogs(boolean areAwake) {
            int all = 0;
            for (int i = 0; i < things; i++) {
                if (kindOf(i) == FROG_KIND && isAwake(i) == areAwake) {
                    all++;
                }
            }
            return all;
        }

        void setFrogs(boolean areAwake) {
            for (int i = 0; i < things && i < wakes.length; i++) {
                wakes[i] = areAwake && kindOf(i) == FROG_KIND;
            }
        }

        int timeByKinds() {
            int thickness = 0;
            for (int i = 0; i < things; i++) {
                thickness += kindOf(i) == MOSS_KIND ? valueOf(i) : 0;
            }
            return TIME_OF_METRE * depth + 2 * thickness + TIME_OF_FROG * countOfFrogs(true);
        }

        boolean hasThingBelow() {
            for (int i = 0; i < things; i++) {
                if (depthOf(i) > depth) {
                    return true;
                }
            }
            return false;
        }

        private void set(int thing, int kind, int thingDepth, int value, boolean isAwake) {
            if (thing >= 0 && thing < kinds.length && thing < depths.length
                    && thing < values.length && thing < wakes.length) {
                kinds[thing] = kind;
                depths[thing] = thingDepth;
                values[thing] = value;
                wakes[thing] = isAwake;
            }
        }
    }

    /** A rope, the well to which it is bound, and how many coins it has fished. */
    private static final class Rope {
        private int length;
        private int well;
        private int coins;

        void open(int newLength) {
            length = newLength;
            well = NONE;
            coins = 0;
        }

        void copy(Rope other) {
            length = other.length;
            well = other.well;
            coins = other.coins;
        }
    }

    /** The latest echoes in one row, the latest one first; letters are kept of that one alone. */
    private static final class Book {
        private final int[] numbers;
        private final Letters latest;
        private int echoes;

        Book() {
            numbers = new int[MOST_IN_BOOK * BOOK_NUMBERS];
            latest = new Letters();
        }

        void copy(Book other) {
            echoes = other.echoes;
            latest.copy(other.latest);
            for (int i = 0; i < numbers.length && i < other.numbers.length; i++) {
                numbers[i] = other.numbers[i];
            }
        }

        int numberAt(int place, int what) {
            int index = place * BOOK_NUMBERS + what;
            return index >= 0 && index < numbers.length ? numbers[index] : 0;
        }

        void enter(int well, Letters word, Way way, int grade) {
            for (int i = numbers.length - 1; i >= BOOK_NUMBERS; i--) {
                numbers[i] = numbers[i - BOOK_NUMBERS];
            }
            setFirst(0, well);
            setFirst(1, word.size());
            setFirst(2, way.letters.size());
            setFirst(3, way.time);
            setFirst(4, grade);
            latest.copy(way.letters);
            if (echoes < MOST_IN_BOOK) {
                echoes++;
            }
        }

        private void setFirst(int what, int number) {
            if (what >= 0 && what < numbers.length) {
                numbers[what] = number;
            }
        }
    }

    /** All that goes back when a change is undone. */
    private static final class World {
        private final Well[] wells;
        private final Rope[] ropes;
        private final Book book;
        private int wellCount;
        private int ropeCount;
        private int echoes;
        private int grades;
        private int shouted;
        private int lost;
        private int given;
        private int echoed;
        private int fished;
        private int woken;

        World() {
            wells = new Well[MOST_WELLS];
            for (int i = 0; i < wells.length; i++) {
                wells[i] = new Well();
            }
            ropes = new Rope[MOST_ROPES];
            for (int i = 0; i < ropes.length; i++) {
                ropes[i] = new Rope();
            }
            book = new Book();
        }

        void copy(World other) {
            wellCount = other.wellCount;
            for (int i = 0; i < wellCount; i++) {
                copyWell(i, other.wellAt(i));
            }
            ropeCount = other.ropeCount;
            for (int i = 0; i < ropeCount; i++) {
                copyRope(i, other.ropeAt(i));
            }
            book.copy(other.book);
            echoes = other.echoes;
            grades = other.grades;
            shouted = other.shouted;
            lost = other.lost;
            given = other.given;
            echoed = other.echoed;
            fished = other.fished;
            woken = other.woken;
        }

        Well wellAt(int number) {
            return number >= 0 && number < wellCount && number < wells.length ? wells[number] : null;
        }

        Rope ropeAt(int number) {
            return number >= 0 && number < ropeCount && number < ropes.length ? ropes[number] : null;
        }

        int addWell(int depth, int bottom) {
            int number = wellCount;
            wellCount++;
            Well well = wellAt(number);
            if (well != null) {
                well.open(depth, bottom);
            }
            return number;
        }

        int addRope(int length) {
            int number = ropeCount;
            ropeCount++;
            Rope rope = ropeAt(number);
            if (rope != null) {
                rope.open(length);
            }
            return number;
        }

        void removeWell(int number) {
            for (int i = number + 1; i < wellCount; i++) {
                copyWell(i - 1, wellAt(i));
            }
            wellCount--;
            for (int i = 0; i < ropeCount; i++) {
                Rope rope = ropeAt(i);
                if (rope != null && rope.well == number) {
                    rope.well = NONE;
                } else if (rope != null && rope.well > number) {
                    rope.well--;
                }
            }
        }

        int ropesAt(int well) {
            int all = 0;
            for (int i = 0; i < ropeCount; i++) {
                Rope rope = ropeAt(i);
                if (rope != null && rope.well == well) {
                    all++;
                }
            }
            return all;
        }

        int countOfThings() {
            int all = 0;
            for (int i = 0; i < wellCount; i++) {
                Well well = wellAt(i);
                all += well == null ? 0 : well.things;
            }
            return all;
        }

        int countOfSleepers() {
            int all = 0;
            for (int i = 0; i < wellCount; i++) {
                Well well = wellAt(i);
                all += well == null ? 0 : well.countOfFrogs(false);
            }
            return all;
        }

        int wakeFrogs() {
            int sleepers = countOfSleepers();
            for (int i = 0; i < wellCount; i++) {
                Well well = wellAt(i);
                if (well != null) {
                    well.setFrogs(true);
                }
            }
            woken += sleepers;
            return sleepers;
        }

        void enter(int number, Letters word, Way way, int grade) {
            echoes++;
            grades += grade;
            shouted += word.size();
            lost += way.lost;
            given += way.given;
            echoed += way.letters.size();
            book.enter(number, word, way, grade);
        }

        private void copyWell(int number, Well other) {
            Well well = wellAt(number);
            if (well != null && other != null) {
                well.copy(other);
            }
        }

        private void copyRope(int number, Rope other) {
            Rope rope = ropeAt(number);
            if (rope != null && other != null) {
                rope.copy(other);
            }
        }
    }

    /** What becomes of a word that goes down a well and up again; the frogs stay as they are. */
    private static final class Way {
        private final Letters letters;
        private int lost;
        private int given;
        private int time;

        Way() {
            letters = new Letters();
        }

        void go(Well well, Letters word) {
            letters.copy(word);
            lost = 0;
            given = 0;
            time = TIME_OF_METRE * well.depth;
            for (int place = 0; place < well.things; place++) {
                pass(well, well.thingAt(place), true);
            }
            turnAt(well.bottom);
            for (int place = well.things - 1; place >= 0; place--) {
                pass(well, well.thingAt(place), false);
            }
        }

        int gradeFor(Letters word) {
            int more = word.size() - letters.size();
            int grade = BEST_GRADE - Math.abs(more) - time / TIME_OF_GRADE;
            return Math.max(grade, 0);
        }

        private void pass(Well well, int thing, boolean isDown) {
            int before = letters.size();
            switch (well.kindOf(thing)) {
                case COIN_KIND:
                    letters.cutLast();
                    break;
                case MOSS_KIND:
                    time += well.valueOf(thing);
                    letters.cutFirstVowel();
                    break;
                default:
                    // On the way up no frog is left awake: each was passed on the way down.
                    if (isDown && well.isAwake(thing)) {
                        answer(well.valueOf(thing));
                    }
                    return;
            }
            lost += before - letters.size();
        }

        private void answer(int letter) {
            letters.put((char) letter);
            given++;
            time += TIME_OF_FROG;
        }

        private void turnAt(int bottom) {
            int before = letters.size();
            if (bottom == WATER) {
                letters.turn();
            } else if (bottom == MUD) {
                letters.cutVowels();
            }
            lost += before - letters.size();
        }
    }

    /** A reason with its detail; its number is 0 as long as there is none. */
    private static final class Refusal {
        private int number;
        private int detail;

        void set(int newNumber, int newDetail) {
            number = newNumber;
            detail = newDetail;
        }
    }

    /** Does orders in a world, or refuses them and leaves it as it is. */
    private static final class Keeper {
        private final Refusal refusal;
        private final Refusal cause;
        private final Way way;

        Keeper() {
            refusal = new Refusal();
            cause = new Refusal();
            way = new Way();
        }

        int obey(World world, Order order, int first, int second, int third, Letters word) {
            if (order == null) {
                return REFUSED;
            }
            switch (order) {
                case DIG:
                    return openWell(world, first, second);
                case DEEPEN:
                    return lowerBottom(world, first, second);
                case FILL:
                    return closeWell(world, first);
                case COIN:
                    return dropThing(world, COIN_KIND, first, second, third);
                case FROG:
                    return dropThing(world, FROG_KIND, first, second, third);
                case MOSS:
                    return dropThing(world, MOSS_KIND, first, second, third);
                case TAKE:
                    return removeThing(world, first, second);
                case WAKE:
                    return world.wakeFrogs();
                case ROPE:
                    return bringRope(world, first);
                case BIND:
                    return tieRope(world, first, second);
                case FISH:
                    return pullCoin(world, first);
                default:
                    return sendDown(world, first, word);
            }
        }

        /** Makes the reason that was kept last the cause of the refusal of a text. */
        void refuseOrder(int index) {
            cause.set(refusal.number, refusal.detail);
            refusal.set(ORDER_REFUSED, index);
        }

        private int openWell(World world, int depth, int bottom) {
            if (!isIn(depth, 1, MOST_METRES)) {
                return refuse(OUT_OF_RANGE, depth);
            }
            if (!isIn(bottom, STONE, MUD)) {
                return refuse(OUT_OF_RANGE, bottom);
            }
            if (world.wellCount >= MOST_WELLS) {
                return refuse(TOO_MANY, MOST_WELLS);
            }
            return world.addWell(depth, bottom);
        }

        private int lowerBottom(World world, int number, int metres) {
            Well well = world.wellAt(number);
            if (well == null) {
                return refuse(NOT_THERE, number);
            }
            if (!isIn(metres, 1, MOST_METRES_MORE)) {
                return refuse(OUT_OF_RANGE, metres);
            }
            if (well.depth + metres > MOST_METRES) {
                return refuse(TOO_DEEP, MOST_METRES - well.depth);
            }
            well.depth += metres;
            return well.depth;
        }

        private int closeWell(World world, int number) {
            if (world.wellAt(number) == null) {
                return refuse(NOT_THERE, number);
            }
            world.removeWell(number);
            return world.wellCount;
        }

        private int dropThing(World world, int kind, int number, int depth, int value) {
            Well well = world.wellAt(number);
            if (well == null) {
                return refuse(NOT_THERE, number);
            }
            if (!isIn(depth, 1, MOST_METRES)) {
                return refuse(OUT_OF_RANGE, depth);
            }
            if (kind == FROG_KIND ? !isLetter(value) : !isIn(value, 1, MOST_VALUE)) {
                return refuse(OUT_OF_RANGE, value);
            }
            if (depth > well.depth) {
                return refuse(NOT_SO_DEEP, well.depth);
            }
            if (well.things >= MOST_THINGS) {
                return refuse(TOO_MANY, MOST_THINGS);
            }
            return well.add(kind, depth, value);
        }

        private int removeThing(World world, int number, int thing) {
            Well well = world.wellAt(number);
            if (well == null) {
                return refuse(NOT_THERE, number);
            }
            if (!well.hasThing(thing)) {
                return refuse(NOT_THERE, thing);
            }
            well.remove(thing);
            return well.things;
        }

        private int bringRope(World world, int length) {
            if (!isIn(length, 1, MOST_METRES)) {
                return refuse(OUT_OF_RANGE, length);
            }
            if (world.ropeCount >= MOST_ROPES) {
                return refuse(TOO_MANY, MOST_ROPES);
            }
            return world.addRope(length);
        }

        private int tieRope(World world, int number, int well) {
            Rope rope = world.ropeAt(number);
            if (rope == null) {
                return refuse(NOT_THERE, number);
            }
            if (world.wellAt(well) == null) {
                return refuse(NOT_THERE, well);
            }
            if (rope.well == well) {
                return refuse(SO_ALREADY, well);
            }
            rope.well = well;
            return world.ropesAt(well);
        }

        private int pullCoin(World world, int number) {
            Rope rope = world.ropeAt(number);
            if (rope == null) {
                return refuse(NOT_THERE, number);
            }
            Well well = world.wellAt(rope.well);
            if (well == null) {
                return refuse(NOT_BOUND, rope.length);
            }
            int thing = well.uppermostCoin(rope.length);
            if (thing == NONE) {
                return refuse(NO_COIN, well.countOf(COIN_KIND));
            }
            int value = well.valueOf(thing);
            well.remove(thing);
            rope.coins++;
            world.fished += value;
            return value;
        }

        private int sendDown(World world, int number, Letters word) {
            Well well = world.wellAt(number);
            if (well == null) {
                return refuse(NOT_THERE, number);
            }
            if (word.size() == 0) {
                return refuse(NO_WORD, world.echoes);
            }
            way.go(well, word);
            int grade = way.gradeFor(word);
            well.setFrogs(false);
            well.echoes++;
            well.grades += grade;
            world.enter(number, word, way, grade);
            return grade;
        }

        private int refuse(int number, int detail) {
            refusal.set(number, detail);
            cause.set(0, 0);
            return REFUSED;
        }

        private static boolean isIn(int number, int least, int most) {
            return number >= least && number <= most;
        }
    }

    /** Reads a text order by order; where a part is not found, its place stands at the fault. */
    private static final class Reader {
        private final Letters text;
        private final Letters word;
        private final int[] numbers;
        private int numberCount;
        private int place;
        private Order order;

        Reader() {
            text = new Letters();
            word = new Letters();
            numbers = new int[ORDER_NUMBERS];
        }

        int countOrders(Letters input) {
            text.copy(input);
            rewind();
            for (int orders = 1; orders <= MOST_SIGNS; orders++) {
                if (!readOrder()) {
                    return NONE;
                }
                if (place >= text.size()) {
                    return orders;
                }
                if (!readSign(';')) {
                    return NONE;
                }
            }
            return NONE;
        }

        void rewind() {
            place = 0;
        }

        boolean readOrder() {
            numberCount = 0;
            word.clear();
            order = readName();
            if (order == null) {
                return false;
            }
            String form = order.form;
            for (int i = 0; i < form.length(); i++) {
                if (!readPart(form.charAt(i))) {
                    return false;
                }
            }
            return true;
        }

        boolean readSign(char sign) {
            if (text.at(place) != sign) {
                return false;
            }
            place++;
            return true;
        }

        int numberAt(int index) {
            return index >= 0 && index < numberCount && index < numbers.length ? numbers[index] : 0;
        }

        private Order readName() {
            int longest = 0;
            for (Order one : ORDERS) {
                int same = sameSigns(one.name);
                if (same == one.name.length()) {
                    place += same;
                    return one;
                }
                longest = Math.max(longest, same);
            }
            place += longest;
            return null;
        }

        private int sameSigns(String name) {
            for (int i = 0; i < name.length(); i++) {
                if (text.at(place + i) != name.charAt(i)) {
                    return i;
                }
            }
            return name.length();
        }

        private boolean readPart(char part) {
            switch (part) {
                case 'd':
                    return readNumber(1);
                case 'n':
                    return readNumber(2);
                case 'b':
                    return readBottom();
                case 'l':
                    return readLetter();
                case 'w':
                    return readWord();
                default:
                    return readSign(part);
            }
        }

        private boolean readNumber(int mostDigits) {
            int number = 0;
            int digits = 0;
            while (digits < mostDigits && isDigit(text.at(place))) {
                number = 10 * number + text.at(place) - '0';
                place++;
                digits++;
            }
            if (digits == 0) {
                return false;
            }
            note(number);
            return true;
        }

        private boolean readBottom() {
            char sign = text.at(place);
            if (sign != 's' && sign != 'w' && sign != 'm') {
                return false;
            }
            note(sign == 's' ? STONE : sign == 'w' ? WATER : MUD);
            place++;
            return true;
        }

        private boolean readLetter() {
            char sign = text.at(place);
            if (!isLetter(sign)) {
                return false;
            }
            note(sign);
            place++;
            return true;
        }

        private boolean readWord() {
            for (int i = 0; i < MOST_LETTERS && isLetter(text.at(place)); i++) {
                word.put(text.at(place));
                place++;
            }
            return word.size() > 0;
        }

        private void note(int number) {
            if (numberCount >= 0 && numberCount < numbers.length) {
                numbers[numberCount] = number;
                numberCount++;
            }
        }

        private static boolean isDigit(char sign) {
            return sign >= '0' && sign <= '9';
        }
    }

    /**
     * The worlds before the latest changes, in a ring. It has a slot more than changes that can be
     * undone: a change that is refused in the end was noted there, and costs no older one its slot.
     */
    private static final class History {
        private final World[] worlds;
        private int next;
        private int count;

        History() {
            worlds = new World[MOST_CHANGES + 1];
            for (int i = 0; i < worlds.length; i++) {
                worlds[i] = new World();
            }
        }

        /** Notes the world before a change, which counts as one only when it is kept. */
        void look(World world) {
            World slot = slotAt(next);
            if (slot != null) {
                slot.copy(world);
            }
        }

        void keep() {
            next = next < MOST_CHANGES ? next + 1 : 0;
            count = Math.min(count + 1, MOST_CHANGES);
        }

        void takeBack(World world) {
            World slot = slotAt(next);
            if (slot != null) {
                world.copy(slot);
            }
        }

        void goBack(World world) {
            next = next > 0 ? next - 1 : MOST_CHANGES;
            count--;
            takeBack(world);
        }

        void forget() {
            count = 0;
        }

        private World slotAt(int index) {
            return index >= 0 && index < worlds.length ? worlds[index] : null;
        }
    }
}
