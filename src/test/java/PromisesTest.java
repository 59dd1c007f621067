import java.util.NoSuchElementException;
import java.util.concurrent.Callable;

/** Each promise of the document by itself: ordinary inputs, the edges that it names, and wrong inputs. */
public final class PromisesTest {
    private static final Class<IllegalArgumentException> ARGUMENT = IllegalArgumentException.class;
    private static final Class<IllegalStateException> STATE = IllegalStateException.class;
    private static final Class<IndexOutOfBoundsException> INDEX = IndexOutOfBoundsException.class;
    private static final Class<NoSuchElementException> ELEMENT = NoSuchElementException.class;
    private static final Class<UnsupportedOperationException> UNSUPPORTED = UnsupportedOperationException.class;
    private static final Class<ArithmeticException> ARITHMETIC = ArithmeticException.class;
    private static final int[] WILD = {-1, Integer.MIN_VALUE, Integer.MAX_VALUE, 1 << 30, -(1 << 30)};

    private PromisesTest() {
    }

    public static void main(String[] args) {
        newObject();
        dig();
        deepen();
        fill();
        coin();
        frog();
        moss();
        take();
        wake();
        rope();
        bind();
        fish();
        letter();
        shout();
        grades();
        wellOf();
        thingOf();
        ropeOf();
        bookOf();
        times();
        isLater();
        echoes();
        losses();
        wouldGrade();
        bestWell();
        isWhole();
        vowels();
        reach();
        ranked();
        isTold();
        append();
        run();
        runOrders();
        runRefused();
        faultPosition();
        reason();
        tellWord();
        tellEcho();
        tellWell();
        character();
        account();
        meanGrade();
        lostShare();
        undo();
        undoKeeps();
        save();
        restore();
        Check.finish();
    }

    // Promise 1
    private static void newObject() {
        EchoWells x = new EchoWells();
        for (int what = 0; what <= 13; what++) {
            Check.is("new: account " + what, x.account(what), 0);
        }
        Check.is("new: vowels", x.vowels(), 0);
        Check.is("new: faultPosition", x.faultPosition(), -1);
        Check.is("new: isTold", x.isTold(), true);
        Check.fails("new: well 0", INDEX, () -> x.wellOf(0, 0));
        Check.fails("new: rope 0", INDEX, () -> x.ropeOf(0, 0));
        Check.fails("new: reason", ELEMENT, () -> x.reason(0, false));
        Check.fails("new: character", INDEX, () -> x.character(0));
        Check.fails("new: undo", STATE, x::undo);
        Check.fails("new: restore", STATE, x::restore);
    }

    // Promise 2
    private static void dig() {
        EchoWells x = new EchoWells();
        refused("dig 0", x, 3, 0, () -> x.dig(0, 0));
        refused("dig 31", x, 3, 31, () -> x.dig(31, 3));
        refused("dig bottom 3", x, 3, 3, () -> x.dig(30, 3));
        refused("dig bottom -1", x, 3, -1, () -> x.dig(1, -1));
        for (int wild : WILD) {
            refused("dig wild depth", x, 3, wild, () -> x.dig(wild, 0));
            refused("dig wild bottom", x, 3, wild, () -> x.dig(5, wild));
        }
        Check.is("dig 1", x.dig(1, 0), 0);
        Check.is("dig 30", x.dig(30, 2), 1);
        for (int i = 2; i < 8; i++) {
            Check.is("dig more", x.dig(i, 1), i);
        }
        refused("dig ninth", x, 1, 8, () -> x.dig(5, 1));
        refused("dig ninth out of range", x, 3, 31, () -> x.dig(31, 1));
        Check.is("dig: depth", x.wellOf(1, 0), 30);
        Check.is("dig: bottom", x.wellOf(1, 1), 2);
        Check.is("dig: wells", x.account(0), 8);
    }

    // Promise 3
    private static void deepen() {
        EchoWells x = new EchoWells();
        refused("deepen none", x, 2, 0, () -> x.deepen(0, 0));
        x.dig(1, 0);
        x.dig(10, 0);
        refused("deepen 0", x, 3, 0, () -> x.deepen(1, 0));
        refused("deepen 30", x, 3, 30, () -> x.deepen(1, 30));
        refused("deepen 21", x, 4, 20, () -> x.deepen(1, 21));
        for (int wild : WILD) {
            refused("deepen wild well", x, 2, wild, () -> x.deepen(wild, 1));
            refused("deepen wild metres", x, 3, wild, () -> x.deepen(1, wild));
        }
        Check.is("deepen 20", x.deepen(1, 20), 30);
        refused("deepen full", x, 4, 0, () -> x.deepen(1, 1));
        Check.is("deepen 29", x.deepen(0, 29), 30);
        Check.is("deepen: depth", x.wellOf(0, 0), 30);
    }

    // Promise 4
    private static void fill() {
        EchoWells x = new EchoWells();
        refused("fill none", x, 2, 0, () -> x.fill(0));
        for (int i = 0; i < 4; i++) {
            x.dig(10 + i, i % 3);
            x.coin(i, 1 + i, 1 + i);
        }
        for (int i = 0; i < 3; i++) {
            x.rope(9);
            x.bind(i, i);
        }
        say(x, "ab");
        x.shout(1);
        say(x, "abc");
        x.shout(2);
        Check.is("fill", x.fill(1), 3);
        Check.is("fill: next well", x.wellOf(1, 0), 12);
        Check.is("fill: its bottom", x.wellOf(1, 1), 2);
        Check.is("fill: its echoes", x.wellOf(1, 5), 1);
        Check.is("fill: its thing", x.thingOf(1, 0, 2), 3);
        Check.is("fill: last well", x.thingOf(2, 0, 2), 4);
        Check.is("fill: rope of the lower well", x.ropeOf(0, 1), 0);
        Check.is("fill: rope of the well", x.ropeOf(1, 1), -1);
        Check.is("fill: rope of the higher well", x.ropeOf(2, 1), 1);
        Check.is("fill: ropes of the lower well", x.wellOf(0, 7), 1);
        Check.is("fill: book of the latest", x.bookOf(0, 0), 2);
        Check.is("fill: book of the one before", x.bookOf(1, 0), 1);
        Check.is("fill: echoes stay", x.account(5), 2);
        refused("fill 3", x, 2, 3, () -> x.fill(3));
        for (int wild : WILD) {
            refused("fill wild", x, 2, wild, () -> x.fill(wild));
        }
        Check.is("fill again", x.fill(2), 2);
        Check.is("dig after fill", x.dig(3, 1), 2);
        say(x, "abc");
        x.shout(2);
        x.fill(2);
        Check.is("dig after fill again", x.dig(3, 1), 2);
        Check.is("dig after fill: things", x.wellOf(2, 2), 0);
        Check.is("dig after fill: echoes", x.wellOf(2, 5), 0);
        Check.is("dig after fill: grades", x.wellOf(2, 6), 0);
    }

    // Promise 5
    private static void coin() {
        EchoWells x = new EchoWells();
        refused("coin without well", x, 2, 0, () -> x.coin(0, 0, 0));
        x.dig(5, 0);
        refused("coin depth 0", x, 3, 0, () -> x.coin(0, 0, 10));
        refused("coin depth 31", x, 3, 31, () -> x.coin(0, 31, 10));
        refused("coin value 0", x, 3, 0, () -> x.coin(0, 5, 0));
        refused("coin value 10", x, 3, 10, () -> x.coin(0, 6, 10));
        refused("coin too deep", x, 5, 5, () -> x.coin(0, 6, 9));
        refused("coin at 30", x, 5, 5, () -> x.coin(0, 30, 1));
        for (int wild : WILD) {
            refused("coin wild well", x, 2, wild, () -> x.coin(wild, 1, 1));
            refused("coin wild depth", x, 3, wild, () -> x.coin(0, wild, 1));
            refused("coin wild value", x, 3, wild, () -> x.coin(0, 1, wild));
        }
        for (int i = 0; i < 5; i++) {
            Check.is("coin", x.coin(0, 5 - i, 9 - i), i);
        }
        refused("sixth coin", x, 1, 5, () -> x.coin(0, 5, 1));
        refused("sixth coin too deep", x, 5, 5, () -> x.coin(0, 6, 1));
        Check.is("coin: kind", x.thingOf(0, 1, 0), 0);
        Check.is("coin: depth", x.thingOf(0, 1, 1), 4);
        Check.is("coin: value", x.thingOf(0, 1, 2), 8);
    }

    // Promise 6
    private static void frog() {
        EchoWells x = new EchoWells();
        refused("frog without well", x, 2, 1, () -> x.frog(1, 0, 'A'));
        x.dig(5, 0);
        refused("frog depth 0", x, 3, 0, () -> x.frog(0, 0, 'A'));
        refused("frog A", x, 3, 65, () -> x.frog(0, 6, 'A'));
        refused("frog before a", x, 3, 96, () -> x.frog(0, 5, '`'));
        refused("frog behind z", x, 3, 123, () -> x.frog(0, 5, '{'));
        refused("frog of another sign", x, 3, 65535, () -> x.frog(0, 5, (char) 65535));
        refused("frog too deep", x, 5, 5, () -> x.frog(0, 6, 'a'));
        for (int i = 0; i < 5; i++) {
            int number = i;
            Check.is("frog", Check.answer(() -> x.frog(0, 5, (char) ('v' + number))), i);
        }
        refused("sixth frog", x, 1, 5, () -> x.frog(0, 5, 'a'));
        Check.is("frog: kind", x.thingOf(0, 4, 0), 1);
        Check.is("frog: letter", x.thingOf(0, 4, 2), 25);
        Check.is("frog: awake", x.thingOf(0, 4, 3), 1);
    }

    // Promise 7
    private static void moss() {
        EchoWells x = new EchoWells();
        refused("moss without well", x, 2, 0, () -> x.moss(0, 0, 0));
        x.dig(5, 0);
        refused("moss depth 31", x, 3, 31, () -> x.moss(0, 31, 0));
        refused("moss thickness 0", x, 3, 0, () -> x.moss(0, 6, 0));
        refused("moss thickness 10", x, 3, 10, () -> x.moss(0, 6, 10));
        refused("moss too deep", x, 5, 5, () -> x.moss(0, 6, 9));
        for (int i = 0; i < 5; i++) {
            Check.is("moss", x.moss(0, 1 + i, 9 - i), i);
        }
        refused("sixth moss", x, 1, 5, () -> x.moss(0, 5, 1));
        Check.is("moss: kind", x.thingOf(0, 2, 0), 2);
        Check.is("moss: thickness", x.thingOf(0, 2, 2), 7);
        Check.is("moss: not awake", x.thingOf(0, 2, 3), 0);
    }

    // Promise 8
    private static void take() {
        EchoWells x = new EchoWells();
        refused("take without well", x, 2, 3, () -> x.take(3, 7));
        x.dig(9, 0);
        refused("take nothing", x, 2, 0, () -> x.take(0, 0));
        x.coin(0, 1, 1);
        x.frog(0, 2, 'b');
        x.moss(0, 3, 3);
        refused("take 3", x, 2, 3, () -> x.take(0, 3));
        for (int wild : WILD) {
            refused("take wild well", x, 2, wild, () -> x.take(wild, 0));
            refused("take wild thing", x, 2, wild, () -> x.take(0, wild));
        }
        Check.is("take", x.take(0, 0), 2);
        Check.is("take: next kind", x.thingOf(0, 0, 0), 1);
        Check.is("take: next depth", x.thingOf(0, 0, 1), 2);
        Check.is("take: next letter", x.thingOf(0, 0, 2), 1);
        Check.is("take: next awake", x.thingOf(0, 0, 3), 1);
        Check.is("take: last kind", x.thingOf(0, 1, 0), 2);
        Check.is("take last", x.take(0, 1), 1);
        Check.is("take only", x.take(0, 0), 0);
        Check.fails("take: none left", INDEX, () -> x.thingOf(0, 0, 0));
    }

    // Promise 9
    private static void wake() {
        EchoWells x = new EchoWells();
        Check.is("wake none", x.wake(), 0);
        Check.is("wake none is a change", x.account(13), 1);
        x.dig(4, 0);
        x.dig(5, 0);
        x.frog(0, 1, 'a');
        x.frog(0, 1, 'b');
        x.frog(1, 1, 'c');
        x.moss(1, 1, 1);
        Check.is("wake when all are awake", x.wake(), 0);
        say(x, "q");
        x.shout(0);
        say(x, "q");
        x.shout(1);
        Check.is("wake: sleepers", x.account(2), 3);
        Check.is("wake", x.wake(), 3);
        Check.is("wake: no sleepers", x.account(2), 0);
        Check.is("wake: woken", x.account(11), 3);
        Check.is("wake: frog", x.thingOf(0, 1, 3), 1);
        Check.is("wake: moss is not awake", x.thingOf(1, 1, 3), 0);
        say(x, "q");
        x.shout(1);
        Check.is("wake one", x.wake(), 1);
        Check.is("wake: woken again", x.account(11), 4);
    }

    // Promise 10
    private static void rope() {
        EchoWells x = new EchoWells();
        refused("rope 0", x, 3, 0, () -> x.rope(0));
        refused("rope 31", x, 3, 31, () -> x.rope(31));
        for (int wild : WILD) {
            refused("rope wild", x, 3, wild, () -> x.rope(wild));
        }
        Check.is("rope 1", x.rope(1), 0);
        Check.is("rope 30", x.rope(30), 1);
        Check.is("rope 7", x.rope(7), 2);
        refused("fourth rope", x, 1, 3, () -> x.rope(7));
        refused("fourth rope out of range", x, 3, 31, () -> x.rope(31));
        Check.is("rope: length", x.ropeOf(1, 0), 30);
        Check.is("rope: bound to none", x.ropeOf(1, 1), -1);
        Check.is("rope: coins", x.ropeOf(1, 2), 0);
    }

    // Promise 11
    private static void bind() {
        EchoWells x = new EchoWells();
        refused("bind none", x, 2, 1, () -> x.bind(1, 2));
        x.rope(1);
        x.rope(2);
        refused("bind to none", x, 2, 0, () -> x.bind(0, 0));
        x.dig(1, 0);
        x.dig(2, 0);
        refused("bind to -1", x, 2, -1, () -> x.bind(0, -1));
        for (int wild : WILD) {
            refused("bind wild rope", x, 2, wild, () -> x.bind(wild, 0));
            refused("bind wild well", x, 2, wild, () -> x.bind(0, wild));
        }
        Check.is("bind", x.bind(0, 1), 1);
        refused("bind again", x, 6, 1, () -> x.bind(0, 1));
        Check.is("bind the other", x.bind(1, 1), 2);
        Check.is("bind elsewhere", x.bind(0, 0), 1);
        Check.is("bind: well", x.ropeOf(0, 1), 0);
        Check.is("bind: ropes of the well", x.wellOf(1, 7), 1);
    }

    // Promise 12
    private static void fish() {
        EchoWells x = new EchoWells();
        refused("fish without rope", x, 2, 0, () -> x.fish(0));
        x.rope(4);
        refused("fish unbound", x, 7, 4, () -> x.fish(0));
        x.dig(9, 0);
        x.bind(0, 0);
        refused("fish nothing", x, 8, 0, () -> x.fish(0));
        x.coin(0, 5, 9);
        x.frog(0, 1, 'a');
        refused("fish too deep", x, 8, 1, () -> x.fish(0));
        x.coin(0, 4, 3);
        x.coin(0, 4, 2);
        x.coin(0, 3, 1);
        Check.is("fish the uppermost", x.fish(0), 1);
        Check.is("fish the lower number", x.fish(0), 3);
        Check.is("fish the next", x.fish(0), 2);
        Check.is("fish: coins of the rope", x.ropeOf(0, 2), 3);
        Check.is("fish: value", x.account(10), 6);
        Check.is("fish: things left", x.wellOf(0, 2), 2);
        refused("fish no more", x, 8, 1, () -> x.fish(0));
        for (int wild : WILD) {
            refused("fish wild", x, 2, wild, () -> x.fish(wild));
        }
        x.fill(0);
        refused("fish when the well went", x, 7, 4, () -> x.fish(0));
    }

    // Promise 13
    private static void letter() {
        EchoWells x = new EchoWells();
        for (char wrong : new char[] {'A', 'Z', '`', '{', ' ', '0', (char) 0, (char) 233, (char) 65535}) {
            Check.fails("letter " + (int) wrong, ARGUMENT, () -> x.letter(wrong));
        }
        String word = "azebcdfg";
        for (int i = 0; i < 8; i++) {
            Check.is("letter", x.letter(word.charAt(i)), i + 1);
        }
        Check.fails("ninth letter", STATE, () -> x.letter('a'));
        Check.fails("ninth letter wrong", ARGUMENT, () -> x.letter('A'));
        Check.is("letter: word", told(x, x.tellWord()), word);
        Check.is("letter is no change", x.account(13), 0);
    }

    // Promise 14
    private static void shout() {
        EchoWells x = new EchoWells();
        say(x, "hello");
        refused("shout without well", x, 2, 0, () -> x.shout(0));
        Check.is("shout refused: the word stays", x.account(4), 5);
        x.dig(12, 1);
        x.coin(0, 4, 3);
        x.frog(0, 5, 'k');
        x.moss(0, 9, 1);
        Check.is("shout", x.shout(0), 6);
        Check.is("shout: echo", told(x, x.tellEcho()), "kll");
        Check.is("shout: the word is empty", x.account(4), 0);
        Check.is("shout: the frog sleeps", x.thingOf(0, 1, 3), 0);
        refused("shout no word", x, 9, 1, () -> x.shout(0));
        refused("shout no word and no well", x, 2, 1, () -> x.shout(1));
        for (int wild : WILD) {
            refused("shout wild", x, 2, wild, () -> x.shout(wild));
        }
        say(x, "hello");
        Check.is("shout past a sleeper", x.shout(0), 5);
        Check.is("shout past a sleeper: echo", told(x, x.tellEcho()), "ll");
        Check.is("shout: lost", x.account(7), 6);
        Check.is("shout: given", x.account(8), 1);
        Check.is("shout: shouted", x.account(6), 10);
        Check.is("shout: letters of echoes", x.account(9), 5);
        Check.is("echo of stone", echoOf(0, "", "abei"), "abei");
        Check.is("echo of water", echoOf(1, "", "abei"), "ieba");
        Check.is("echo of mud", echoOf(2, "", "abei"), "b");
        Check.is("echo of mud and vowels", echoOf(2, "", "aeiou"), "");
        Check.is("echo past moss", echoOf(0, "moss 0 1 1", "xaeb"), "xb");
        Check.is("echo past moss and water", echoOf(1, "moss 0 1 1", "abecid"), "dceb");
        Check.is("echo past moss without vowels", echoOf(0, "moss 0 1 1", "xyz"), "xyz");
        Check.is("echo past coins", echoOf(0, "coin 0 1 1;coin 0 1 9", "abcdef"), "ab");
        Check.is("echo past coins and water", echoOf(1, "coin 0 1 1", "abcdef"), "edcb");
        Check.is("echo past more coins than letters", echoOf(0, "coin 0 1 1", "a"), "");
        Check.is("echo past frogs, by depth", echoOf(0, "frog 0 3 x;frog 0 1 y;frog 0 3 z", "a"), "ayxz");
        Check.is("frog answers an empty word", echoOf(1, "coin 0 1 1;frog 0 2 y", "a"), "");
        Check.is("frog below a coin", echoOf(1, "frog 0 2 y;coin 0 1 1", "abc"), "yb");
        Check.is("frog above a coin", echoOf(1, "frog 0 1 y;coin 0 2 1", "abc"), "cb");
    }

    // Grades, in promises 14, 18 and 25
    private static void grades() {
        Check.is("grade 9", gradeOf(9, "", "abc"), 9);
        Check.is("grade at 20 units", gradeOf(10, "", "abc"), 8);
        Check.is("grade at 60 units", gradeOf(30, "", "abc"), 6);
        Check.is("grade of fewer letters", gradeOf(9, "coin 0 1 1", "abc"), 7);
        Check.is("grade of more letters", gradeOf(1, "frog 0 1 a;frog 0 1 b", "abc"), 7);
        Check.is("grade at 19 units", gradeOf(8, "frog 0 1 a", "abc"), 8);
        Check.is("grade at 21 units", gradeOf(9, "frog 0 1 a", "abc"), 7);
        Check.is("grade at 20 units with moss", gradeOf(9, "moss 0 1 1", "xyz"), 8);
        Check.is("grade not below 0", gradeOf(30, "coin 0 1 1;coin 0 1 1;coin 0 1 1", "abcdef"), 0);
        Check.is("grade below 0", gradeOf(30, "coin 0 1 1;coin 0 1 1;coin 0 1 1;coin 0 1 1", "abcdefgh"), 0);
    }

    // Promise 15
    private static void wellOf() {
        EchoWells x = new EchoWells();
        x.dig(3, 0);
        x.dig(20, 1);
        x.coin(1, 1, 1);
        x.coin(1, 1, 2);
        x.frog(1, 2, 'a');
        x.frog(1, 2, 'b');
        x.moss(1, 2, 5);
        Check.is("wellOf: awake frogs", x.wellOf(1, 4), 2);
        say(x, "xyz");
        int grade = x.shout(1);
        x.frog(0, 1, 'c');
        x.rope(1);
        x.bind(0, 1);
        int[] due = {20, 1, 5, 2, 0, 1, grade, 1};
        for (int what = 0; what <= 7; what++) {
            Check.is("wellOf 1, " + what, x.wellOf(1, what), due[what]);
        }
        say(x, "xyz");
        grade += x.shout(1);
        Check.is("wellOf: echoes", x.wellOf(1, 5), 2);
        Check.is("wellOf: sum of the grades", x.wellOf(1, 6), grade);
        Check.is("wellOf: other well", x.wellOf(0, 5), 0);
        Check.is("wellOf: other well's frog", x.wellOf(0, 4), 1);
        Check.fails("wellOf 8", ARGUMENT, () -> x.wellOf(0, 8));
        Check.fails("wellOf well 2", INDEX, () -> x.wellOf(2, 8));
        for (int wild : WILD) {
            Check.fails("wellOf wild well", INDEX, () -> x.wellOf(wild, wild));
            Check.fails("wellOf wild what", ARGUMENT, () -> x.wellOf(0, wild));
        }
    }

    // Promise 16
    private static void thingOf() {
        EchoWells x = new EchoWells();
        x.dig(30, 0);
        x.coin(0, 5, 7);
        x.frog(0, 30, 'a');
        x.moss(0, 2, 9);
        x.frog(0, 5, 'z');
        int[][] due = {{0, 5, 7, 0, 1}, {1, 30, 0, 1, 3}, {2, 2, 9, 0, 0}, {1, 5, 25, 1, 2}};
        for (int thing = 0; thing < 4; thing++) {
            for (int what = 0; what <= 4; what++) {
                Check.is("thingOf " + thing + ", " + what, x.thingOf(0, thing, what), due[thing][what]);
            }
        }
        say(x, "a");
        x.shout(0);
        Check.is("thingOf: asleep", x.thingOf(0, 3, 3), 0);
        Check.fails("thingOf what 5", ARGUMENT, () -> x.thingOf(0, 0, 5));
        Check.fails("thingOf thing 4", INDEX, () -> x.thingOf(0, 4, 5));
        Check.fails("thingOf well 1", INDEX, () -> x.thingOf(1, 0, 0));
        for (int wild : WILD) {
            Check.fails("thingOf wild well", INDEX, () -> x.thingOf(wild, 0, 0));
            Check.fails("thingOf wild thing", INDEX, () -> x.thingOf(0, wild, wild));
            Check.fails("thingOf wild what", ARGUMENT, () -> x.thingOf(0, 0, wild));
        }
    }

    // Promise 17
    private static void ropeOf() {
        EchoWells x = new EchoWells();
        x.dig(9, 0);
        x.dig(9, 0);
        x.coin(1, 9, 4);
        x.rope(9);
        x.rope(12);
        x.bind(1, 1);
        x.fish(1);
        Check.is("ropeOf: length", x.ropeOf(1, 0), 12);
        Check.is("ropeOf: well", x.ropeOf(1, 1), 1);
        Check.is("ropeOf: coins", x.ropeOf(1, 2), 1);
        Check.is("ropeOf: bound to none", x.ropeOf(0, 1), -1);
        Check.fails("ropeOf what 3", ARGUMENT, () -> x.ropeOf(1, 3));
        Check.fails("ropeOf rope 2", INDEX, () -> x.ropeOf(2, 3));
        for (int wild : WILD) {
            Check.fails("ropeOf wild rope", INDEX, () -> x.ropeOf(wild, wild));
            Check.fails("ropeOf wild what", ARGUMENT, () -> x.ropeOf(0, wild));
        }
    }

    // Promise 18
    private static void bookOf() {
        EchoWells x = new EchoWells();
        Check.fails("bookOf empty", ELEMENT, () -> x.bookOf(0, 5));
        for (int i = 0; i < 8; i++) {
            x.dig(10 + i, 0);
        }
        x.coin(7, 1, 1);
        for (int i = 0; i < 8; i++) {
            say(x, "abcdefgh".substring(0, 1 + i));
            x.shout(i);
            int known = Math.min(i + 1, 6);
            Check.is("bookOf: latest well", x.bookOf(0, 0), i);
            Check.is("bookOf: first well", x.bookOf(known - 1, 0), i + 1 - known);
            Check.fails("bookOf: behind the last", ELEMENT, () -> x.bookOf(known, 0));
        }
        int[] due = {7, 8, 6, 34, 6};
        for (int what = 0; what <= 4; what++) {
            Check.is("bookOf 0, " + what, x.bookOf(0, what), due[what]);
        }
        Check.is("bookOf: letters of the oldest", x.bookOf(5, 1), 3);
        Check.fails("bookOf what 5", ARGUMENT, () -> x.bookOf(0, 5));
        for (int wild : WILD) {
            Check.fails("bookOf wild place", ELEMENT, () -> x.bookOf(wild, wild));
            Check.fails("bookOf wild what", ARGUMENT, () -> x.bookOf(5, wild));
        }
    }

    // Promises 19 and 20
    private static void times() {
        EchoWells x = new EchoWells();
        Check.fails("time of no well", INDEX, () -> x.time(0));
        Check.fails("timeAgain of no well", INDEX, () -> x.timeAgain(0));
        x.dig(1, 0);
        bothTimes("time of a well alone", x, 2);
        x.deepen(0, 29);
        bothTimes("time of a deep well", x, 60);
        x.coin(0, 1, 9);
        bothTimes("time with a coin", x, 60);
        x.moss(0, 30, 4);
        bothTimes("time with moss", x, 68);
        x.frog(0, 30, 'a');
        x.frog(0, 1, 'b');
        bothTimes("time with frogs", x, 74);
        x.moss(0, 1, 9);
        bothTimes("time with more moss", x, 92);
        say(x, "a");
        bothTimes("time with a word", x, 92);
        x.shout(0);
        Check.is("time in the book", x.bookOf(0, 3), 92);
        bothTimes("time past sleepers", x, 86);
        x.wake();
        bothTimes("time past frogs that were woken", x, 92);
        for (int wild : WILD) {
            Check.fails("time wild", INDEX, () -> x.time(wild));
            Check.fails("timeAgain wild", INDEX, () -> x.timeAgain(wild));
        }
    }

    // Promise 21
    private static void isLater() {
        EchoWells x = new EchoWells();
        x.dig(10, 0);
        x.dig(11, 0);
        x.dig(10, 2);
        Check.is("isLater: less", x.isLater(0, 1), false);
        Check.is("isLater: more", x.isLater(1, 0), true);
        Check.is("isLater: same", x.isLater(0, 2), false);
        Check.is("isLater: itself", x.isLater(1, 1), false);
        x.moss(0, 1, 2);
        Check.is("isLater: by moss", x.isLater(0, 1), true);
        Check.fails("isLater one", INDEX, () -> x.isLater(3, 0));
        Check.fails("isLater other", INDEX, () -> x.isLater(0, 3));
        for (int wild : WILD) {
            Check.fails("isLater wild one", INDEX, () -> x.isLater(wild, 0));
            Check.fails("isLater wild other", INDEX, () -> x.isLater(0, wild));
        }
    }

    // Promises 22 and 23
    private static void echoes() {
        EchoWells x = new EchoWells();
        Check.fails("echoLength: no well, no word", INDEX, () -> x.echoLength(0));
        Check.fails("echoLetter: no well, no word", INDEX, () -> x.echoLetter(0, 0));
        x.dig(12, 1);
        Check.fails("echoLength: no word", ELEMENT, () -> x.echoLength(0));
        Check.fails("echoLetter: no word", ELEMENT, () -> x.echoLetter(0, 0));
        x.coin(0, 4, 3);
        x.frog(0, 5, 'k');
        x.moss(0, 9, 1);
        say(x, "hello");
        for (int again = 0; again < 2; again++) {
            Check.is("echoLength", x.echoLength(0), 3);
            Check.is("echoLetter 0", x.echoLetter(0, 0), 'k');
            Check.is("echoLetter 1", x.echoLetter(0, 1), 'l');
            Check.is("echoLetter 2", x.echoLetter(0, 2), 'l');
        }
        Check.fails("echoLetter 3", ELEMENT, () -> x.echoLetter(0, 3));
        Check.is("echoLength: the frog stays awake", x.thingOf(0, 1, 3), 1);
        Check.is("echoLength: the word stays", told(x, x.tellWord()), "hello");
        for (int wild : WILD) {
            Check.fails("echoLength wild", INDEX, () -> x.echoLength(wild));
            Check.fails("echoLetter wild well", INDEX, () -> x.echoLetter(wild, 0));
            Check.fails("echoLetter wild place", ELEMENT, () -> x.echoLetter(0, wild));
        }
        for (int i = 0; i < 3; i++) {
            x.letter('x');
        }
        x.fill(0);
        x.dig(1, 0);
        for (int i = 0; i < 5; i++) {
            x.frog(0, 1, (char) ('p' + i));
        }
        Check.is("echoLength of the longest", x.echoLength(0), 13);
        Check.is("echoLetter of the longest", x.echoLetter(0, 12), 't');
    }

    // Promise 24
    private static void losses() {
        EchoWells x = new EchoWells();
        Check.fails("losses: no well, no word", INDEX, () -> x.losses(0));
        x.dig(1, 0);
        Check.fails("losses: no word", ELEMENT, () -> x.losses(0));
        say(x, "a");
        Check.is("losses of stone", x.losses(0), 0);
        x.frog(0, 1, 'o');
        x.coin(0, 1, 1);
        Check.is("losses with those of frogs", x.losses(0), 2);
        Check.is("losses: letters left", x.echoLength(0), 0);
        x.frog(0, 1, 'u');
        x.moss(0, 1, 1);
        x.dig(1, 2);
        Check.is("losses of all", x.losses(0), 3);
        Check.is("losses of mud", x.losses(1), 1);
        for (int wild : WILD) {
            Check.fails("losses wild", INDEX, () -> x.losses(wild));
        }
    }

    // Promise 25
    private static void wouldGrade() {
        EchoWells x = new EchoWells();
        Check.fails("wouldGrade: no well, no word", INDEX, () -> x.wouldGrade(0));
        x.dig(20, 2);
        Check.fails("wouldGrade: no word", ELEMENT, () -> x.wouldGrade(0));
        x.frog(0, 20, 'b');
        say(x, "aab");
        Check.is("wouldGrade", x.wouldGrade(0), 6);
        Check.is("wouldGrade again", x.wouldGrade(0), 6);
        Check.is("wouldGrade: no echo", x.account(5), 0);
        Check.is("wouldGrade: as it is then", x.shout(0), 6);
        for (int wild : WILD) {
            Check.fails("wouldGrade wild", INDEX, () -> x.wouldGrade(wild));
        }
    }

    // Promise 26
    private static void bestWell() {
        EchoWells x = new EchoWells();
        Check.fails("bestWell: no well, no word", ELEMENT, x::bestWell);
        say(x, "hat");
        Check.fails("bestWell: no well", ELEMENT, x::bestWell);
        x.dig(30, 0);
        Check.is("bestWell of one", x.bestWell(), 0);
        x.dig(9, 0);
        Check.is("bestWell by grade", x.bestWell(), 1);
        x.dig(8, 0);
        Check.is("bestWell by time", x.bestWell(), 2);
        x.dig(8, 1);
        Check.is("bestWell by number", x.bestWell(), 2);
        x.dig(2, 2);
        Check.is("bestWell: grade before time", x.bestWell(), 2);
        x.shout(0);
        Check.fails("bestWell: no word", ELEMENT, x::bestWell);
        EchoWells y = new EchoWells();
        y.dig(30, 0);
        y.dig(29, 0);
        for (int i = 0; i < 5; i++) {
            y.coin(0, 1, 1);
            y.coin(1, 1, 1);
        }
        say(y, "abcdefgh");
        Check.is("bestWell of grades 0 by time", y.bestWell(), 1);
    }

    // Promise 27
    private static void isWhole() {
        EchoWells x = new EchoWells();
        Check.fails("isWhole: no well, no word", INDEX, () -> x.isWhole(0));
        x.dig(5, 0);
        x.dig(5, 1);
        x.dig(5, 2);
        x.dig(5, 1);
        x.frog(3, 1, 'x');
        Check.fails("isWhole: no word", ELEMENT, () -> x.isWhole(0));
        say(x, "xa");
        Check.is("isWhole of stone", x.isWhole(0), true);
        Check.is("isWhole of water", x.isWhole(1), false);
        Check.is("isWhole of mud", x.isWhole(2), false);
        Check.is("isWhole with a letter more", x.isWhole(3), false);
        x.letter('x');
        Check.is("isWhole of water, the same both ways", x.isWhole(1), true);
        for (int wild : WILD) {
            Check.fails("isWhole wild", INDEX, () -> x.isWhole(wild));
        }
    }

    // Promise 28
    private static void vowels() {
        EchoWells x = new EchoWells();
        Check.is("vowels of no word", x.vowels(), 0);
        int vowels = 0;
        for (int i = 0; i < 26; i++) {
            char letter = (char) ('a' + i);
            vowels += "aeiou".indexOf(letter) >= 0 ? 1 : 0;
            x.letter(letter);
            Check.is("vowels up to " + letter, x.vowels(), vowels);
            if (x.account(4) == 8) {
                x.dig(1, 0);
                x.shout(0);
                vowels = 0;
            }
        }
    }

    // Promise 29
    private static void reach() {
        EchoWells x = new EchoWells();
        Check.fails("reach without rope", INDEX, () -> x.reach(0));
        x.rope(5);
        Check.fails("reach unbound", ELEMENT, () -> x.reach(0));
        x.dig(9, 0);
        x.bind(0, 0);
        Check.fails("reach nothing", ELEMENT, () -> x.reach(0));
        x.moss(0, 1, 1);
        x.coin(0, 6, 1);
        Check.fails("reach too deep", ELEMENT, () -> x.reach(0));
        x.coin(0, 5, 2);
        Check.is("reach", x.reach(0), 2);
        x.coin(0, 5, 3);
        Check.is("reach the lower number", x.reach(0), 2);
        x.coin(0, 4, 3);
        Check.is("reach the uppermost", x.reach(0), 4);
        Check.is("reach: nothing is fished", x.wellOf(0, 3), 4);
        for (int wild : WILD) {
            Check.fails("reach wild", INDEX, () -> x.reach(wild));
        }
    }

    // Promise 30
    private static void ranked() {
        EchoWells x = new EchoWells();
        Check.fails("ranked: no well", ELEMENT, () -> x.ranked(0, 0));
        Check.fails("ranked: no kind, no well", ARGUMENT, () -> x.ranked(4, 0));
        x.dig(5, 0);
        x.dig(7, 0);
        x.dig(5, 0);
        x.dig(9, 0);
        x.moss(0, 1, 9);
        x.coin(2, 1, 1);
        x.coin(2, 1, 1);
        for (int i = 0; i < 3; i++) {
            say(x, "a");
            x.shout(i == 0 ? 1 : 3);
        }
        order(x, 0, 3, 1, 0, 2);
        order(x, 1, 0, 3, 1, 2);
        order(x, 2, 2, 0, 1, 3);
        order(x, 3, 3, 1, 0, 2);
        Check.fails("ranked: place 4", ELEMENT, () -> x.ranked(3, 4));
        for (int wild : WILD) {
            Check.fails("ranked wild kind", ARGUMENT, () -> x.ranked(wild, wild));
            Check.fails("ranked wild place", ELEMENT, () -> x.ranked(0, wild));
        }
    }

    // Promise 31
    private static void isTold() {
        EchoWells x = new EchoWells();
        feed(x, "dig 9 m;frog 0 9 a;moss 0 3 4;coin 0 1 1;shout 0 mamaia");
        x.run();
        Check.is("isTold after an echo", x.isTold(), true);
        feed(x, "dig 3 w;frog 1 3 a;frog 1 3 e;coin 1 3 3;shout 1 a");
        x.run();
        Check.is("isTold after echoes", x.isTold(), true);
        x.undo();
        Check.is("isTold after undo", x.isTold(), true);
        x.fill(0);
        Check.is("isTold after fill", x.isTold(), true);
    }

    // Promise 32
    private static void append() {
        EchoWells x = new EchoWells();
        for (char wrong : new char[] {(char) 0, (char) 31, (char) 127, (char) 233, (char) 65535}) {
            Check.fails("append " + (int) wrong, ARGUMENT, () -> x.append(wrong));
        }
        Check.is("append 32", x.append(' '), 1);
        Check.is("append 126", x.append('~'), 2);
        for (int i = 3; i <= 60; i++) {
            Check.is("append", x.append('a'), i);
        }
        Check.fails("append the 61st", STATE, () -> x.append('a'));
        Check.fails("append the 61st wrong", ARGUMENT, () -> x.append((char) 31));
        Check.is("append: input", x.account(12), 60);
    }

    // Promise 33
    private static void run() {
        EchoWells x = new EchoWells();
        say(x, "own");
        feed(x, "dig 9 m;frog 0 3 a;shout 0 ma;rope 4;bind 0 0;coin 0 5 7");
        Check.is("run", x.run(), 6);
        Check.is("run: the input is empty", x.account(12), 0);
        Check.is("run: one change", x.account(13), 1);
        Check.is("run: echo", told(x, x.tellEcho()), "m");
        Check.is("run: the word stays", told(x, x.tellWord()), "own");
        Check.is("run: well", told(x, x.tellWell(0)), "9m fa@3 c7@5");
        Check.is("run: rope", x.ropeOf(0, 1), 0);
        Check.is("run: undone", x.undo(), 0);
        Check.is("run: nothing is left", x.account(0) + x.account(3) + x.account(5), 0);
        StringBuilder wakes = new StringBuilder("wake");
        for (int i = 1; i < 12; i++) {
            wakes.append(";wake");
        }
        feed(x, wakes.toString());
        Check.is("run of the most orders", x.run(), 12);
    }

    private static void runOrders() {
        EchoWells x = new EchoWells();
        runs(x, "dig 30 s;dig 5 w;dig 05 m;deepen 1 25;deepen 2 01;fill 1", 6);
        Check.is("run dig, deepen, fill", told(x, x.tellWell(1)), "6m");
        runs(x, "coin 0 12 3;frog 0 05 z;moss 0 9 9;take 0 0;wake;wake", 6);
        Check.is("run of things", told(x, x.tellWell(0)), "30s fZ@5 m9@9");
        runs(x, "rope 30;bind 0 0;coin 0 30 8;fish 0;shout 0 abcdefgh", 5);
        Check.is("run fish", x.account(10), 8);
        Check.is("run shout", told(x, x.tellEcho()), "bcdfghz");
        Check.is("run shout: letters of the word", x.bookOf(0, 1), 8);
        runs(x, "dig 7 s", 1);
        Check.is("run dig of one digit", x.wellOf(2, 0), 7);
        Check.is("run dig stone", x.wellOf(2, 1), 0);
        runs(x, "dig 7 w", 1);
        Check.is("run dig water", x.wellOf(3, 1), 1);
    }

    private static void runRefused() {
        EchoWells x = new EchoWells();
        for (int i = 0; i < 8; i++) {
            x.dig(1 + i, 0);
        }
        say(x, "own");
        refusedText(x, "fill 0;dig 3 s;wake;dig 4 w", 3, 1, 8);
        Check.is("run refused: all or none", x.wellOf(0, 0), 1);
        Check.is("run refused: the input is empty", x.account(12), 0);
        Check.is("run refused: no change", x.account(13), 8);
        Check.is("run refused: no fault", x.faultPosition(), -1);
        Check.is("run refused: the word stays", x.account(4), 3);
        refusedText(x, "dig 31 s", 0, 3, 31);
        refusedText(x, "dig 00 s", 0, 3, 0);
        refusedText(x, "deepen 8 1", 0, 2, 8);
        refusedText(x, "deepen 0 99", 0, 3, 99);
        refusedText(x, "wake;deepen 7 23", 1, 4, 22);
        refusedText(x, "fill 7;fill 7", 1, 2, 7);
        refusedText(x, "coin 0 2 1", 0, 5, 1);
        refusedText(x, "coin 0 0 1", 0, 3, 0);
        refusedText(x, "moss 0 1 0", 0, 3, 0);
        refusedText(x, "frog 0 99 a", 0, 3, 99);
        refusedText(x, "take 0 4", 0, 2, 4);
        refusedText(x, "rope 1;rope 2;rope 3;rope 4", 3, 1, 3);
        refusedText(x, "rope 0", 0, 3, 0);
        refusedText(x, "rope 5;bind 0 1;bind 0 1", 2, 6, 1);
        refusedText(x, "rope 5;fish 0", 1, 7, 5);
        refusedText(x, "rope 5;bind 0 6;coin 6 6 1;fish 0", 3, 8, 1);
        refusedText(x, "fish 2", 0, 2, 2);
        refusedText(x, "shout 0 abc;shout 9 abc", 1, 2, 9);
        Check.is("run refused: no echo", x.account(5), 0);
        Check.is("run refused: no rope", x.account(3), 0);
        for (int i = 8; i > 0; i--) {
            Check.is("run refused: undo", x.undo(), i - 1);
            Check.is("run refused: undone", x.account(0), i - 1);
        }
    }

    // Promise 34
    private static void faultPosition() {
        fault("", 0);
        fault(" ", 0);
        fault("x", 0);
        fault("D", 0);
        fault("d", 1);
        fault("da", 1);
        fault("dip 3 s", 2);
        fault("dig3 s", 3);
        fault("dig ", 4);
        fault("dig x", 4);
        fault("dig 3", 5);
        fault("dig 3s", 5);
        fault("dig 333 s", 6);
        fault("dig 33 ", 7);
        fault("dig 3 x", 6);
        fault("dig 3 ss", 7);
        fault("dig 3  s", 6);
        fault("dig 3 s ", 7);
        fault("dig 3 s;", 8);
        fault("dig 3 s; dig 3 s", 8);
        fault("dig 3 s;;", 8);
        fault("deep 1", 4);
        fault("deepen 12 3", 8);
        fault("deepen 1 123", 11);
        fault("fi", 2);
        fault("fix", 2);
        fault("fr", 2);
        fault("frig", 2);
        fault("f", 1);
        fault("fa", 1);
        fault("fill", 4);
        fault("fill a", 5);
        fault("fill 12", 6);
        fault("coin 1 1 12", 10);
        fault("coin 1 11", 9);
        fault("frog 1 1 A", 9);
        fault("frog 1 1 ab", 10);
        fault("frog 1 1 1", 9);
        fault("moss 1 1 a", 9);
        fault("take 1", 6);
        fault("take 1 1 ", 8);
        fault("wak", 3);
        fault("wake ", 4);
        fault("wake;wakes", 9);
        fault("rope 123", 7);
        fault("bind 1 1a", 8);
        fault("fish", 4);
        fault("shout 0", 7);
        fault("shout 0 ", 8);
        fault("shout 0 A", 8);
        fault("shout 0 ab1", 10);
        fault("shout 0 abcdefghi", 16);
        fault("wake;shout 10 a", 12);
        fault("dig  s", 4);
        fault("dig 3 ;wake", 6);
        fault("fill ;wake", 5);
        fault("frog 1 1 ", 9);
        fault("frog 1 1 ;wake", 9);
        fault("shout 0 ;wake", 8);
        EchoWells x = new EchoWells();
        feed(x, "dig 3 s;dig x");
        Check.fails("fault behind a good order", ARGUMENT, x::run);
        Check.is("fault: nothing is done", x.account(0), 0);
        Check.is("fault: no change", x.account(13), 0);
        Check.is("fault: the input is empty", x.account(12), 0);
        Check.is("fault: position", x.faultPosition(), 12);
        Check.fails("fault: no reason", ELEMENT, () -> x.reason(0, false));
        x.dig(3, 0);
        x.undo();
        Check.is("fault: stays at undo", x.faultPosition(), 12);
        runs(x, "wake", 1);
        Check.is("fault: none later", x.faultPosition(), -1);
    }

    // Promise 35
    private static void reason() {
        EchoWells x = new EchoWells();
        Check.fails("reason depth 2, nothing refused", ARGUMENT, () -> x.reason(2, true));
        Check.fails("reason depth 0, nothing refused", ELEMENT, () -> x.reason(0, true));
        Check.fails("reason depth 1, nothing refused", ELEMENT, () -> x.reason(1, false));
        refusedText(x, "wake;wake;fill 4", 2, 2, 4);
        refused("reason without cause", x, 3, 99, () -> x.dig(99, 0));
        x.dig(3, 0);
        Check.is("reason stays after a change", x.reason(0, true), 99);
        x.undo();
        Check.is("reason stays after undo", x.reason(0, false), 3);
        Check.fails("reason depth -1", ARGUMENT, () -> x.reason(-1, true));
        for (int wild : WILD) {
            Check.fails("reason wild", ARGUMENT, () -> x.reason(wild, false));
        }
    }

    // Promise 36
    private static void tellWord() {
        EchoWells x = new EchoWells();
        x.dig(30, 0);
        x.tellWell(0);
        Check.is("tellWord of none", told(x, x.tellWord()), "");
        say(x, "echowell");
        Check.is("tellWord", told(x, x.tellWord()), "echowell");
        x.shout(0);
        Check.is("tellWord: the line stays", x.character(7), 'l');
    }

    // Promise 37
    private static void tellEcho() {
        EchoWells x = new EchoWells();
        say(x, "ab");
        x.tellWord();
        Check.is("tellEcho of none", told(x, x.tellEcho()), "");
        x.dig(3, 1);
        x.shout(0);
        Check.is("tellEcho", told(x, x.tellEcho()), "ba");
        say(x, "xyz");
        x.shout(0);
        Check.is("tellEcho of the latest", told(x, x.tellEcho()), "zyx");
        x.undo();
        Check.is("tellEcho goes back", told(x, x.tellEcho()), "ba");
        x.undo();
        Check.is("tellEcho goes back to none", told(x, x.tellEcho()), "");
        x.dig(3, 2);
        say(x, "aei");
        x.shout(1);
        Check.is("tellEcho without letters", told(x, x.tellEcho()), "");
    }

    // Promise 38
    private static void tellWell() {
        EchoWells x = new EchoWells();
        x.dig(12, 1);
        x.dig(9, 0);
        x.dig(30, 2);
        x.coin(0, 4, 3);
        x.frog(0, 5, 'k');
        x.moss(0, 9, 1);
        Check.is("tellWell", told(x, x.tellWell(0)), "12w c3@4 fK@5 m1@9");
        Check.is("tellWell alone", told(x, x.tellWell(1)), "9s");
        for (int i = 0; i < 5; i++) {
            x.moss(2, 30 - 5 * i, 9);
        }
        Check.is("tellWell of the longest", told(x, x.tellWell(2)), "30m m9@30 m9@25 m9@20 m9@15 m9@10");
        say(x, "q");
        x.shout(0);
        Check.is("tellWell with a sleeper", told(x, x.tellWell(0)), "12w c3@4 fk@5 m1@9");
        Check.fails("tellWell 3", INDEX, () -> x.tellWell(3));
        Check.is("tellWell refused: the line stays", x.character(0), '1');
        for (int wild : WILD) {
            Check.fails("tellWell wild", INDEX, () -> x.tellWell(wild));
        }
    }

    // Promise 39
    private static void character() {
        EchoWells x = new EchoWells();
        Check.fails("character of an empty line", INDEX, () -> x.character(0));
        say(x, "abc");
        x.tellWord();
        Check.is("character 0", x.character(0), 'a');
        Check.is("character 2", x.character(2), 'c');
        Check.fails("character 3", INDEX, () -> x.character(3));
        for (int wild : WILD) {
            Check.fails("character wild", INDEX, () -> x.character(wild));
        }
        x.letter('d');
        Check.fails("character of the line before", INDEX, () -> x.character(3));
    }

    // Promise 40
    private static void account() {
        EchoWells x = new EchoWells();
        feed(x, "dig 9 m;frog 0 3 a;shout 0 mab;rope 9;bind 0 0;coin 0 5 7");
        x.run();
        x.dig(20, 0);
        x.fish(0);
        x.frog(1, 2, 'z');
        say(x, "abc");
        x.shout(1);
        x.wake();
        say(x, "abcde");
        x.shout(0);
        say(x, "xy");
        x.append('w');
        int[] due = {2, 2, 1, 1, 2, 3, 11, 5, 3, 9, 7, 2, 1, 7};
        for (int what = 0; what <= 13; what++) {
            Check.is("account " + what, x.account(what), due[what]);
        }
        Check.fails("account 14", ARGUMENT, () -> x.account(14));
        for (int wild : WILD) {
            Check.fails("account wild", ARGUMENT, () -> x.account(wild));
        }
    }

    // Promise 41
    private static void meanGrade() {
        EchoWells x = new EchoWells();
        Check.fails("meanGrade of none", ARITHMETIC, x::meanGrade);
        x.dig(5, 0);
        x.dig(10, 0);
        say(x, "a");
        x.shout(0);
        Check.is("meanGrade of one", x.meanGrade(), 9.0);
        say(x, "a");
        x.shout(1);
        say(x, "a");
        x.shout(1);
        Check.is("meanGrade", x.meanGrade(), 25.0 / 3);
        x.fill(1);
        Check.is("meanGrade when the well went", x.meanGrade(), 25.0 / 3);
    }

    // Promise 42
    private static void lostShare() {
        EchoWells x = new EchoWells();
        Check.fails("lostShare of none", ARITHMETIC, x::lostShare);
        x.dig(5, 2);
        x.frog(0, 1, 'b');
        say(x, "xy");
        x.shout(0);
        Check.is("lostShare of nothing lost", x.lostShare(), 0f);
        say(x, "abc");
        x.shout(0);
        Check.is("lostShare", x.lostShare(), 1f / 6);
    }

    // Promise 43
    private static void undo() {
        EchoWells x = new EchoWells();
        Check.fails("undo nothing", STATE, x::undo);
        for (int i = 0; i < 7; i++) {
            x.dig(1 + i, 0);
        }
        x.fill(0);
        x.wake();
        x.rope(3);
        Check.is("undo: the latest 8", x.account(13), 8);
        Check.is("undo rope", x.undo(), 7);
        Check.is("undo rope: no rope", x.account(3), 0);
        Check.is("undo wake", x.undo(), 6);
        Check.is("undo fill", x.undo(), 5);
        Check.is("undo fill: wells", x.account(0), 7);
        Check.is("undo fill: first well", x.wellOf(0, 0), 1);
        Check.is("undo dig", x.undo(), 4);
        Check.is("change after undo", x.dig(9, 2), 6);
        Check.is("change after undo: changes", x.account(13), 5);
        for (int i = 5; i > 0; i--) {
            Check.is("undo more", x.undo(), i - 1);
        }
        Check.is("undo: wells left", x.account(0), 2);
        Check.fails("undo no more", STATE, x::undo);
        refused("refused", x, 2, 5, () -> x.fill(5));
        Check.is("refused is no change", x.account(13), 0);
    }

    private static void undoKeeps() {
        EchoWells x = new EchoWells();
        x.dig(9, 1);
        x.frog(0, 1, 'a');
        x.coin(0, 2, 5);
        x.rope(9);
        x.bind(0, 0);
        x.fish(0);
        say(x, "word");
        x.shout(0);
        say(x, "ab");
        x.append('q');
        x.tellWord();
        Check.is("undo shout", x.undo(), 6);
        Check.is("undo shout: the frog is awake", x.thingOf(0, 0, 3), 1);
        Check.is("undo shout: echoes", x.account(5), 0);
        Check.is("undo shout: echoes of the well", x.wellOf(0, 5), 0);
        Check.is("undo shout: the word is as it is now", x.account(4), 2);
        Check.is("undo shout: the input", x.account(12), 1);
        Check.is("undo shout: the line", x.character(1), 'b');
        Check.fails("undo shout: the book", ELEMENT, () -> x.bookOf(0, 0));
        Check.is("undo fish", x.undo(), 5);
        Check.is("undo fish: coin", x.reach(0), 1);
        Check.is("undo fish: coins of the rope", x.ropeOf(0, 2), 0);
        Check.is("undo fish: value", x.account(10), 0);
        Check.is("undo bind", x.undo(), 4);
        Check.is("undo bind: well", x.ropeOf(0, 1), -1);
        EchoWells y = new EchoWells();
        y.dig(3, 0);
        say(y, "abc");
        y.shout(0);
        y.undo();
        Check.is("undo shout: the word stays empty", y.account(4), 0);
        feed(y, "rope 9;bind 0 0;coin 0 1 7;fish 0");
        y.run();
        y.undo();
        y.rope(8);
        Check.is("rope after undo: coins", y.ropeOf(0, 2), 0);
        Check.is("rope after undo: well", y.ropeOf(0, 1), -1);
    }

    // Promise 44
    private static void save() {
        EchoWells x = new EchoWells();
        Check.is("save nothing", x.save(), 0);
        x.dig(3, 0);
        x.dig(3, 0);
        Check.is("save", x.save(), 2);
        Check.is("save is no change", x.account(13), 2);
        x.undo();
        x.undo();
        Check.is("save stays at undo", x.restore(), 2);
    }

    // Promise 45
    private static void restore() {
        EchoWells x = new EchoWells();
        Check.fails("restore nothing", STATE, x::restore);
        feed(x, "dig 9 w;frog 0 1 a;coin 0 3 2;rope 5;bind 0 0;shout 0 xyz");
        x.run();
        x.save();
        feed(x, "wake;fish 0;shout 0 abc;fill 0;dig 3 s;dig 4 s;rope 2");
        x.run();
        say(x, "own");
        refused("refused before restore", x, 2, 7, () -> x.fill(7));
        for (int again = 0; again < 2; again++) {
            Check.is("restore", x.restore(), 1);
            Check.is("restore: well", told(x, x.tellWell(0)), "9w fa@1 c2@3");
            Check.is("restore: echo", told(x, x.tellEcho()), "zy");
            Check.is("restore: echoes", x.account(5), 1);
            Check.is("restore: ropes", x.account(3), 1);
            Check.is("restore: rope", x.ropeOf(0, 1), 0);
            Check.is("restore: coins", x.ropeOf(0, 2), 0);
            Check.is("restore: woken", x.account(11), 0);
            Check.is("restore: no changes", x.account(13), 0);
            Check.is("restore: the word stays", x.account(4), 3);
            Check.is("restore: the reason stays", x.reason(0, true), 7);
            Check.fails("restore: no undo", STATE, x::undo);
            x.wake();
            x.fill(0);
            Check.is("restore: changes later", x.account(13), 2);
        }
        x.save();
        Check.is("restore what was saved later", x.restore(), 0);
        EchoWells y = new EchoWells();
        feed(y, "dig 9 w;dig 5 s;rope 5;bind 0 1;shout 0 abc;shout 0 a");
        y.run();
        double mean = y.meanGrade();
        y.save();
        y.undo();
        Check.is("another rope in its place", y.rope(9), 0);
        y.restore();
        Check.is("restore: length of the rope", y.ropeOf(0, 0), 5);
        Check.is("restore: well of the rope", y.ropeOf(0, 1), 1);
        Check.is("restore: grades of the well", y.wellOf(0, 6), 18);
        Check.is("restore: mean grade", y.meanGrade(), mean);
        Check.is("restore: first in the book", y.bookOf(0, 1), 1);
        Check.is("restore: second in the book", y.bookOf(1, 1), 3);
    }

    private static void refused(String what, EchoWells x, int number, int detail, Callable<?> call) {
        int changes = x.account(13);
        Check.fails(what, UNSUPPORTED, call);
        Check.is(what + ": reason", x.reason(0, false), number);
        Check.is(what + ": detail", x.reason(0, true), detail);
        Check.fails(what + ": cause", ELEMENT, () -> x.reason(1, false));
        Check.is(what + ": changes", x.account(13), changes);
    }

    private static void refusedText(EchoWells x, String text, int index, int number, int detail) {
        feed(x, text);
        Check.fails(text, UNSUPPORTED, x::run);
        Check.is(text + ": reason", x.reason(0, false), 10);
        Check.is(text + ": index", x.reason(0, true), index);
        Check.is(text + ": cause", x.reason(1, false), number);
        Check.is(text + ": its detail", x.reason(1, true), detail);
    }

    private static void runs(EchoWells x, String text, int orders) {
        feed(x, text);
        Check.is(text, Check.answer(x::run), orders);
    }

    private static void fault(String text, int position) {
        EchoWells x = new EchoWells();
        feed(x, text);
        Check.fails("'" + text + "'", ARGUMENT, x::run);
        Check.is("'" + text + "': fault", x.faultPosition(), position);
    }

    private static void bothTimes(String what, EchoWells x, int due) {
        Check.is(what, x.time(0), due);
        Check.is(what + ", again", x.timeAgain(0), due);
    }

    private static void order(EchoWells x, int kind, int... wells) {
        for (int place = 0; place < wells.length; place++) {
            Check.is("ranked " + kind + ", " + place, x.ranked(kind, place), wells[place]);
        }
    }

    private static String echoOf(int bottom, String orders, String word) {
        EchoWells x = new EchoWells();
        x.dig(5, bottom);
        feed(x, orders);
        Check.answer(x::run);
        say(x, word);
        x.shout(0);
        return told(x, x.tellEcho());
    }

    private static int gradeOf(int depth, String orders, String word) {
        EchoWells x = new EchoWells();
        x.dig(depth, 0);
        feed(x, orders);
        Check.answer(x::run);
        say(x, word);
        int would = x.wouldGrade(0);
        int grade = x.shout(0);
        Check.is("grade as it would be", grade, would);
        Check.is("grade in the book", x.bookOf(0, 4), grade);
        return grade;
    }

    private static void say(EchoWells x, String word) {
        for (int i = 0; i < word.length(); i++) {
            x.letter(word.charAt(i));
        }
    }

    private static void feed(EchoWells x, String text) {
        for (int i = 0; i < text.length(); i++) {
            x.append(text.charAt(i));
        }
    }

    private static String told(EchoWells x, int length) {
        StringBuilder line = new StringBuilder();
        for (int i = 0; i < length; i++) {
            line.append(x.character(i));
        }
        Check.fails("line behind its end", INDEX, () -> x.character(length));
        return line.toString();
    }
}
