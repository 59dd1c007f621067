/** The sentences of the promises 15 to 31: what can be asked of wells, things, ropes, echoes and words. */
final class AnswerPromises {
    private static final String NO_WELL = "Throws `IndexOutOfBoundsException` if there is no such well";
    private static final String NO_WORD = "Throws `NoSuchElementException` if there is no word";

    private AnswerPromises() {
    }

    static void all() {
        wellOf();
        thingOf();
        ropeOf();
        bookOf();
        time();
        timeAgain();
        isLater();
        echoLength();
        echoLetter();
        losses();
        wouldGrade();
        bestWell();
        isWhole();
        vowels();
        reach();
        ranked();
        isTold();
    }

    private static Run promise(int number, String sentence) {
        return new Run("Promise " + number, sentence);
    }

    private static void wellOf() {
        Run run = promise(15, "- `what`: 0 for its depth, 1 for its bottom, 2 for its things, 3 for its coins, 4 for its frogs"
            + " that are awake, 5 for the echoes out of it so far, 6 for the sum of the grades of these, 7 for the ropes that"
            + " are bound to it");
        run.runs("dig 3 s;dig 20 w;coin 1 1 1;coin 1 1 2;frog 1 2 a", 5).runs("frog 1 2 b;moss 1 2 5;frog 0 1 c", 3)
            .asks(2, x -> x.wellOf(1, 4)).says("xyz").does(4, x -> x.shout(1))
            .runs("rope 1;rope 2;bind 0 1;bind 1 1", 4);
        int[][] due = {{3, 0, 1, 0, 1, 0, 0, 0}, {20, 1, 5, 2, 0, 1, 4, 2}};
        for (int i = 0; i < 16; i++) {
            int[] asked = {i / 8, i % 8};
            run.asks(due[asked[0]][asked[1]], x -> x.wellOf(asked[0], asked[1]));
        }
        promise(15, "Returns a number of a well.").busy().asks(9, x -> x.wellOf(0, 0)).asks(1, x -> x.wellOf(0, 3))
            .asks(0, x -> x.wellOf(0, 4)).asks(1, x -> x.wellOf(1, 4)).asks(1, x -> x.wellOf(2, 7));
        promise(15, "Returns the number.").busy().asks(2, x -> x.wellOf(0, 5)).asks(14, x -> x.wellOf(0, 6))
            .asks(1, x -> x.wellOf(2, 5)).asks(6, x -> x.wellOf(2, 6)).asks(0, x -> x.wellOf(3, 5))
            .does(1, x -> x.wake()).does(7, x -> x.shout(0)).asks(21, x -> x.wellOf(0, 6))
            .asks(0, x -> x.wellOf(0, 4));
        run = promise(15, NO_WELL).fails(Run.INDEX, x -> x.wellOf(0, 0)).fails(Run.INDEX, x -> x.wellOf(0, 8));
        run.busy().asks(3, x -> x.wellOf(3, 0)).fails(Run.INDEX, x -> x.wellOf(4, 0))
            .fails(Run.INDEX, x -> x.wellOf(4, 8));
        for (int wild : Run.WILD) {
            run.fails(Run.INDEX, x -> x.wellOf(wild, wild));
        }
        run = promise(15, "Throws `IllegalArgumentException` if what is not 0 to 7").does(0, x -> x.dig(4, 2))
            .asks(4, x -> x.wellOf(0, 0)).asks(0, x -> x.wellOf(0, 7)).fails(Run.ARGUMENT, x -> x.wellOf(0, 8));
        for (int wild : Run.WILD) {
            run.fails(Run.ARGUMENT, x -> x.wellOf(0, wild));
        }
    }

    private static void thingOf() {
        Run run = promise(16, "- `what`: 0 for 0 for a coin, 1 for a frog, 2 for moss; 1 for its depth; 2 for its value, its"
            + " letter, 0 for a, or its thickness; 3 for 1 for a frog that is awake, otherwise 0; 4 for its place from the"
            + " top on, from 0");
        run.runs("dig 30 s;coin 0 5 7;frog 0 30 a;moss 0 2 9;frog 0 5 z", 5);
        int[][] due = {{0, 5, 7, 0, 1}, {1, 30, 0, 1, 3}, {2, 2, 9, 0, 0}, {1, 5, 25, 1, 2}};
        for (int i = 0; i < 20; i++) {
            int[] asked = {i / 5, i % 5};
            run.asks(due[asked[0]][asked[1]], x -> x.thingOf(0, asked[0], asked[1]));
        }
        run.runs("shout 0 a", 1).asks(0, x -> x.thingOf(0, 3, 3)).asks(0, x -> x.thingOf(0, 1, 3))
            .does(2, x -> x.wake()).asks(1, x -> x.thingOf(0, 3, 3)).asks(0, x -> x.thingOf(0, 0, 3))
            .asks(0, x -> x.thingOf(0, 2, 3));
        promise(16, "Returns a number of a thing.").busy().asks(7, x -> x.thingOf(2, 0, 2))
            .asks(30, x -> x.thingOf(2, 0, 1)).asks(1, x -> x.thingOf(0, 0, 4)).asks(0, x -> x.thingOf(0, 1, 4))
            .asks(10, x -> x.thingOf(0, 1, 2));
        promise(16, "Returns the number.").busy().asks(2, x -> x.thingOf(1, 0, 2)).asks(25, x -> x.thingOf(1, 1, 2))
            .asks(1, x -> x.thingOf(1, 0, 4)).asks(0, x -> x.thingOf(1, 1, 4)).asks(1, x -> x.thingOf(1, 1, 3));
        run = promise(16, "Throws `IndexOutOfBoundsException` if there is no such well, or no such thing")
            .fails(Run.INDEX, x -> x.thingOf(0, 0, 0));
        run.busy().fails(Run.INDEX, x -> x.thingOf(0, 2, 0)).fails(Run.INDEX, x -> x.thingOf(0, 2, 5))
            .fails(Run.INDEX, x -> x.thingOf(3, 0, 0)).fails(Run.INDEX, x -> x.thingOf(4, 0, 0))
            .fails(Run.INDEX, x -> x.thingOf(4, 0, 5));
        for (int wild : Run.WILD) {
            run.fails(Run.INDEX, x -> x.thingOf(wild, 0, wild));
            run.fails(Run.INDEX, x -> x.thingOf(0, wild, wild));
        }
        run = promise(16, "Throws `IllegalArgumentException` if what is not 0 to 4").runs("dig 9 s;moss 0 1 3", 2)
            .asks(2, x -> x.thingOf(0, 0, 0)).asks(0, x -> x.thingOf(0, 0, 4))
            .fails(Run.ARGUMENT, x -> x.thingOf(0, 0, 5));
        for (int wild : Run.WILD) {
            run.fails(Run.ARGUMENT, x -> x.thingOf(0, 0, wild));
        }
    }

    private static void ropeOf() {
        promise(17, "Returns a number of a rope.").runs("dig 9 s;dig 9 s;coin 1 9 4;rope 9;rope 12;bind 1 1", 6)
            .does(4, x -> x.fish(1)).asks(12, x -> x.ropeOf(1, 0)).asks(1, x -> x.ropeOf(1, 1))
            .asks(1, x -> x.ropeOf(1, 2)).asks(9, x -> x.ropeOf(0, 0)).asks(-1, x -> x.ropeOf(0, 1))
            .asks(0, x -> x.ropeOf(0, 2));
        promise(17, "- `what`: 0 for its length, 1 for the well to which it is bound, -1 for none, 2 for the coins that it has"
            + " fished so far").busy().asks(5, x -> x.ropeOf(0, 0)).asks(0, x -> x.ropeOf(0, 1))
            .asks(1, x -> x.ropeOf(0, 2)).asks(30, x -> x.ropeOf(1, 0)).asks(2, x -> x.ropeOf(1, 1))
            .asks(0, x -> x.ropeOf(1, 2)).does(2, x -> x.rope(1)).asks(-1, x -> x.ropeOf(2, 1))
            .does(7, x -> x.fish(1)).asks(1, x -> x.ropeOf(1, 2)).does(0, x -> x.coin(2, 1, 1))
            .does(1, x -> x.fish(1)).asks(2, x -> x.ropeOf(1, 2)).does(3, x -> x.fill(2))
            .asks(-1, x -> x.ropeOf(1, 1)).asks(2, x -> x.ropeOf(1, 2));
        promise(17, "Returns the number.").does(0, x -> x.rope(30)).asks(30, x -> x.ropeOf(0, 0));
        Run run = promise(17, "Throws `IndexOutOfBoundsException` if there is no such rope")
            .fails(Run.INDEX, x -> x.ropeOf(0, 0)).runs("rope 1;rope 2", 2).asks(2, x -> x.ropeOf(1, 0))
            .fails(Run.INDEX, x -> x.ropeOf(2, 0)).fails(Run.INDEX, x -> x.ropeOf(2, 3)).does(2, x -> x.rope(3))
            .fails(Run.INDEX, x -> x.ropeOf(3, 0));
        for (int wild : Run.WILD) {
            run.fails(Run.INDEX, x -> x.ropeOf(wild, wild));
        }
        run = promise(17, "Throws `IllegalArgumentException` if what is not 0 to 2").does(0, x -> x.rope(7))
            .asks(7, x -> x.ropeOf(0, 0)).asks(0, x -> x.ropeOf(0, 2)).fails(Run.ARGUMENT, x -> x.ropeOf(0, 3));
        for (int wild : Run.WILD) {
            run.fails(Run.ARGUMENT, x -> x.ropeOf(0, wild));
        }
    }

    private static void bookOf() {
        int[][] due = {{0, 1, 0, 21, 7}, {2, 4, 4, 60, 6}, {1, 4, 3, 47, 6}, {0, 5, 4, 21, 7}};
        Run run = promise(18, "- `what`: 0 for the well, 1 for the letters of the word, 2 for those of the echo, 3 for the time,"
            + " 4 for the grade").busy();
        for (int i = 0; i < 20; i++) {
            int[] asked = {i / 5, i % 5};
            run.asks(due[asked[0]][asked[1]], x -> x.bookOf(asked[0], asked[1]));
        }
        run = promise(18, "- `place`: its place, 0 for the latest one");
        run.runs("dig 9 s;shout 0 a", 2).asks(1, x -> x.bookOf(0, 1)).fails(Run.ELEMENT, x -> x.bookOf(1, 1))
            .runs("shout 0 ab", 1).asks(2, x -> x.bookOf(0, 1)).asks(1, x -> x.bookOf(1, 1))
            .fails(Run.ELEMENT, x -> x.bookOf(2, 1)).fails(Run.ELEMENT, x -> x.bookOf(-1, 1));
        promise(18, "Returns a number of an echo in the book.").runs("dig 9 s;shout 0 abcd;dig 20 m", 3)
            .asks(4, x -> x.bookOf(0, 2)).runs("shout 1 abcde", 1).asks(3, x -> x.bookOf(0, 2))
            .asks(40, x -> x.bookOf(0, 3)).asks(5, x -> x.bookOf(0, 4)).asks(18, x -> x.bookOf(1, 3))
            .asks(9, x -> x.bookOf(1, 4));
        promise(18, "Returns the number.").runs("dig 1 s;shout 0 abcdefgh", 2).asks(8, x -> x.bookOf(0, 1));
        run = promise(18, "Throws `NoSuchElementException` if there is no such place")
            .fails(Run.ELEMENT, x -> x.bookOf(0, 0)).fails(Run.ELEMENT, x -> x.bookOf(0, 5))
            .runs("dig 1 s;shout 0 a;shout 0 bc;shout 0 a;shout 0 a;shout 0 a", 6).asks(1, x -> x.bookOf(4, 1))
            .fails(Run.ELEMENT, x -> x.bookOf(5, 1)).runs("shout 0 abc", 1).asks(1, x -> x.bookOf(5, 1))
            .fails(Run.ELEMENT, x -> x.bookOf(6, 1)).runs("shout 0 abcd", 1).asks(2, x -> x.bookOf(5, 1))
            .fails(Run.ELEMENT, x -> x.bookOf(6, 1)).fails(Run.ELEMENT, x -> x.bookOf(6, 5));
        for (int wild : Run.WILD) {
            run.fails(Run.ELEMENT, x -> x.bookOf(wild, wild));
        }
        run = promise(18, "Throws `IllegalArgumentException` if what is not 0 to 4").runs("dig 1 s;shout 0 ab", 2)
            .asks(0, x -> x.bookOf(0, 0)).asks(9, x -> x.bookOf(0, 4)).fails(Run.ARGUMENT, x -> x.bookOf(0, 5));
        for (int wild : Run.WILD) {
            run.fails(Run.ARGUMENT, x -> x.bookOf(0, wild));
        }
    }

    private static void time() {
        promise(19, "Returns how much time an echo out of a well would take now: thing by thing, on the way down and up.")
            .runs("dig 1 s;dig 30 m", 2).asks(2, x -> x.time(0)).asks(60, x -> x.time(1))
            .runs("coin 1 1 9;moss 1 30 4", 2).asks(68, x -> x.time(1)).runs("frog 1 30 a;frog 1 1 b", 2)
            .asks(74, x -> x.time(1)).runs("moss 1 1 9", 1).asks(92, x -> x.time(1)).says("a")
            .asks(92, x -> x.time(1)).does(4, x -> x.shout(1)).asks(92, x -> x.bookOf(0, 3))
            .asks(86, x -> x.time(1)).does(2, x -> x.wake()).asks(92, x -> x.time(1)).asks(2, x -> x.time(0));
        promise(19, "Returns the time.").busy().asks(18, x -> x.time(0)).asks(47, x -> x.time(1))
            .asks(60, x -> x.time(2)).asks(6, x -> x.time(3));
        Run run = promise(19, NO_WELL).fails(Run.INDEX, x -> x.time(0)).does(0, x -> x.dig(5, 0))
            .asks(10, x -> x.time(0)).fails(Run.INDEX, x -> x.time(1));
        for (int wild : Run.WILD) {
            run.fails(Run.INDEX, x -> x.time(wild));
        }
    }

    private static void timeAgain() {
        promise(20, "Returns the same by a second way: by the depth, and by all things of each kind.")
            .runs("dig 1 s;dig 30 m", 2).asks(2, x -> x.timeAgain(0)).asks(60, x -> x.timeAgain(1))
            .runs("coin 1 1 9;moss 1 30 4", 2).asks(68, x -> x.timeAgain(1)).runs("frog 1 30 a;frog 1 1 b", 2)
            .asks(74, x -> x.timeAgain(1)).runs("moss 1 1 9", 1).asks(92, x -> x.timeAgain(1)).says("a")
            .does(4, x -> x.shout(1)).asks(86, x -> x.timeAgain(1)).does(2, x -> x.wake())
            .asks(92, x -> x.timeAgain(1));
        promise(20, "Returns the time.").busy().asks(18, x -> x.timeAgain(0)).asks(47, x -> x.timeAgain(1))
            .asks(60, x -> x.timeAgain(2)).asks(6, x -> x.timeAgain(3));
        Run run = promise(20, NO_WELL).fails(Run.INDEX, x -> x.timeAgain(0)).does(0, x -> x.dig(5, 0))
            .asks(10, x -> x.timeAgain(0)).fails(Run.INDEX, x -> x.timeAgain(1));
        for (int wild : Run.WILD) {
            run.fails(Run.INDEX, x -> x.timeAgain(wild));
        }
    }

    private static void isLater() {
        promise(21, "Returns whether an echo out of the one well would take more time now than one out of the other.")
            .runs("dig 10 s;dig 11 s;dig 10 m", 3).asks(false, x -> x.isLater(0, 1))
            .asks(true, x -> x.isLater(1, 0)).runs("moss 0 1 1", 1).asks(false, x -> x.isLater(0, 1))
            .asks(false, x -> x.isLater(1, 0)).runs("frog 0 1 a", 1).asks(true, x -> x.isLater(0, 1))
            .runs("shout 0 b", 1).asks(false, x -> x.isLater(0, 1));
        promise(21, "Returns whether it would.").runs("dig 10 s;dig 10 m", 2).asks(false, x -> x.isLater(0, 1))
            .asks(false, x -> x.isLater(1, 0)).asks(false, x -> x.isLater(1, 1));
        Run run = promise(21, "Throws `IndexOutOfBoundsException` if there is no such well, for either")
            .fails(Run.INDEX, x -> x.isLater(0, 0)).runs("dig 10 s;dig 10 s", 2)
            .fails(Run.INDEX, x -> x.isLater(2, 0)).fails(Run.INDEX, x -> x.isLater(0, 2))
            .fails(Run.INDEX, x -> x.isLater(2, 2)).asks(false, x -> x.isLater(1, 0));
        for (int wild : Run.WILD) {
            run.fails(Run.INDEX, x -> x.isLater(wild, 0)).fails(Run.INDEX, x -> x.isLater(0, wild));
        }
    }

    private static void echoLength() {
        promise(22, "Returns how many letters the echo of the word out of a well would have.")
            .runs("dig 12 w;coin 0 4 3;frog 0 5 k;moss 0 9 1", 4).says("hello").asks(3, x -> x.echoLength(0))
            .asks(3, x -> x.echoLength(0)).does(6, x -> x.shout(0)).says("hello").asks(2, x -> x.echoLength(0));
        promise(22, "Returns how many.").runs("dig 1 s;frog 0 1 a;frog 0 1 b;frog 0 1 c;frog 0 1 d", 5)
            .runs("frog 0 1 e", 1).runs("dig 1 m", 1).says("aeiouaei").asks(13, x -> x.echoLength(0))
            .asks(0, x -> x.echoLength(1));
        Run run = promise(22, NO_WELL).fails(Run.INDEX, x -> x.echoLength(0)).says("a")
            .fails(Run.INDEX, x -> x.echoLength(0)).does(0, x -> x.dig(1, 0)).asks(1, x -> x.echoLength(0))
            .fails(Run.INDEX, x -> x.echoLength(1));
        for (int wild : Run.WILD) {
            run.fails(Run.INDEX, x -> x.echoLength(wild));
        }
        promise(22, NO_WORD).does(0, x -> x.dig(1, 0)).fails(Run.ELEMENT, x -> x.echoLength(0))
            .runs("frog 0 1 a", 1).fails(Run.ELEMENT, x -> x.echoLength(0)).says("a").asks(2, x -> x.echoLength(0))
            .does(8, x -> x.shout(0)).fails(Run.ELEMENT, x -> x.echoLength(0));
    }

    private static void echoLetter() {
        promise(23, "Returns a letter that the echo of the word out of a well would have.")
            .runs("dig 12 w;coin 0 4 3;frog 0 5 k;moss 0 9 1", 4).says("hello").asks('k', x -> x.echoLetter(0, 0))
            .asks('l', x -> x.echoLetter(0, 1)).asks('l', x -> x.echoLetter(0, 2))
            .asks('k', x -> x.echoLetter(0, 0));
        promise(23, "- `place`: its place, from 0").runs("dig 1 s", 1).says("abcdefgh")
            .asks('a', x -> x.echoLetter(0, 0)).asks('h', x -> x.echoLetter(0, 7))
            .fails(Run.ELEMENT, x -> x.echoLetter(0, 8)).fails(Run.ELEMENT, x -> x.echoLetter(0, -1));
        promise(23, "Returns the letter.").runs("dig 1 s;frog 0 1 z;frog 0 1 y;frog 0 1 x;frog 0 1 w", 5)
            .runs("frog 0 1 v", 1).says("abcdefgh").asks('z', x -> x.echoLetter(0, 8))
            .asks('v', x -> x.echoLetter(0, 12)).fails(Run.ELEMENT, x -> x.echoLetter(0, 13));
        Run run = promise(23, NO_WELL).fails(Run.INDEX, x -> x.echoLetter(0, 0)).says("a")
            .fails(Run.INDEX, x -> x.echoLetter(0, 1)).does(0, x -> x.dig(1, 0)).asks('a', x -> x.echoLetter(0, 0))
            .fails(Run.INDEX, x -> x.echoLetter(1, 0));
        for (int wild : Run.WILD) {
            run.fails(Run.INDEX, x -> x.echoLetter(wild, wild));
        }
        run = promise(23, NO_WORD + ", or no such place").does(0, x -> x.dig(1, 0))
            .fails(Run.ELEMENT, x -> x.echoLetter(0, 0)).says("ab").asks('b', x -> x.echoLetter(0, 1))
            .fails(Run.ELEMENT, x -> x.echoLetter(0, 2)).runs("dig 1 m", 1);
        for (int wild : Run.WILD) {
            run.fails(Run.ELEMENT, x -> x.echoLetter(0, wild));
        }
        run.asks('b', x -> x.echoLetter(1, 0)).fails(Run.ELEMENT, x -> x.echoLetter(1, 1)).runs("coin 1 1 1", 1)
            .fails(Run.ELEMENT, x -> x.echoLetter(1, 0)).does(9, x -> x.shout(0))
            .fails(Run.ELEMENT, x -> x.echoLetter(0, 0));
    }

    private static void losses() {
        promise(24, "Returns how many letters would be lost on the way if the word was shouted into a well, those of frogs"
            + " included.").does(0, x -> x.dig(1, 0)).says("a").asks(0, x -> x.losses(0)).runs("frog 0 1 o", 1)
            .asks(0, x -> x.losses(0)).runs("coin 0 1 1", 1).asks(2, x -> x.losses(0)).asks(0, x -> x.echoLength(0))
            .runs("frog 0 1 u;moss 0 1 1;dig 1 m", 3).asks(3, x -> x.losses(0)).asks(1, x -> x.losses(1))
            .does(8, x -> x.shout(0)).asks(3, x -> x.account(7)).says("a").asks(1, x -> x.losses(0));
        promise(24, "Returns how many.").runs("dig 1 m;frog 0 1 a;frog 0 1 e;frog 0 1 i;frog 0 1 o", 5)
            .runs("frog 0 1 u", 1).says("aeiouaei").asks(13, x -> x.losses(0));
        Run run = promise(24, NO_WELL).fails(Run.INDEX, x -> x.losses(0)).says("a")
            .fails(Run.INDEX, x -> x.losses(0)).does(0, x -> x.dig(1, 0)).asks(0, x -> x.losses(0))
            .fails(Run.INDEX, x -> x.losses(1));
        for (int wild : Run.WILD) {
            run.fails(Run.INDEX, x -> x.losses(wild));
        }
        promise(24, NO_WORD).does(0, x -> x.dig(1, 2)).fails(Run.ELEMENT, x -> x.losses(0)).says("a")
            .asks(1, x -> x.losses(0)).does(8, x -> x.shout(0)).fails(Run.ELEMENT, x -> x.losses(0));
    }

    private static void wouldGrade() {
        promise(25, "Returns the grade that the echo of the word out of a well would get.")
            .runs("dig 20 m;frog 0 20 b", 2).says("aab").asks(6, x -> x.wouldGrade(0)).asks(6, x -> x.wouldGrade(0))
            .asks(0, x -> x.account(5)).does(6, x -> x.shout(0)).says("aab").asks(5, x -> x.wouldGrade(0))
            .does(5, x -> x.shout(0));
        promise(25, "Returns the grade.").runs("dig 9 s;dig 30 s;coin 1 1 1;coin 1 1 1;coin 1 1 1", 5)
            .says("abcdefgh").asks(9, x -> x.wouldGrade(0)).asks(0, x -> x.wouldGrade(1)).runs("coin 1 1 1", 1)
            .asks(0, x -> x.wouldGrade(1));
        Run run = promise(25, NO_WELL).fails(Run.INDEX, x -> x.wouldGrade(0)).says("a")
            .fails(Run.INDEX, x -> x.wouldGrade(0)).does(0, x -> x.dig(1, 0)).asks(9, x -> x.wouldGrade(0))
            .fails(Run.INDEX, x -> x.wouldGrade(1));
        for (int wild : Run.WILD) {
            run.fails(Run.INDEX, x -> x.wouldGrade(wild));
        }
        promise(25, NO_WORD).does(0, x -> x.dig(1, 0)).fails(Run.ELEMENT, x -> x.wouldGrade(0)).says("a")
            .asks(9, x -> x.wouldGrade(0)).does(9, x -> x.shout(0)).fails(Run.ELEMENT, x -> x.wouldGrade(0));
    }

    private static void bestWell() {
        promise(26, "Returns the well out of which the echo of the word would get the best grade, of several the one that takes"
            + " less time, then the lowest.").says("hat").runs("dig 30 s", 1).asks(0, x -> x.bestWell())
            .runs("dig 9 s", 1).asks(1, x -> x.bestWell()).runs("dig 8 s", 1).asks(2, x -> x.bestWell())
            .runs("dig 8 w", 1).asks(2, x -> x.bestWell()).runs("dig 2 m", 1).asks(2, x -> x.bestWell())
            .runs("dig 7 w", 1).asks(5, x -> x.bestWell()).does(5, x -> x.fill(2)).asks(4, x -> x.bestWell());
        promise(26, "Returns the well.").runs("dig 30 s;dig 29 s;coin 0 1 1;coin 0 1 1;coin 0 1 1", 5)
            .runs("coin 1 1 1;coin 1 1 1;coin 1 1 1;coin 0 1 1;coin 1 1 1", 5).says("abcdefgh")
            .asks(0, x -> x.wouldGrade(0)).asks(0, x -> x.wouldGrade(1)).asks(1, x -> x.bestWell())
            .runs("dig 29 s;coin 2 1 1;coin 2 1 1;coin 2 1 1", 4).runs("coin 2 1 1", 1).asks(1, x -> x.bestWell())
            .runs("fill 1", 1).asks(1, x -> x.bestWell());
        promise(26, NO_WORD + ", or no well").fails(Run.ELEMENT, x -> x.bestWell()).says("a")
            .fails(Run.ELEMENT, x -> x.bestWell()).does(0, x -> x.dig(1, 0)).asks(0, x -> x.bestWell())
            .does(9, x -> x.shout(0)).fails(Run.ELEMENT, x -> x.bestWell()).says("a").does(0, x -> x.fill(0))
            .fails(Run.ELEMENT, x -> x.bestWell());
    }

    private static void isWhole() {
        promise(27, "Returns whether the echo of the word out of a well would be the word itself.")
            .runs("dig 5 s;dig 5 w;dig 5 m;dig 5 w;frog 3 1 x", 5).says("xa").asks(true, x -> x.isWhole(0))
            .asks(false, x -> x.isWhole(1)).asks(false, x -> x.isWhole(2)).asks(false, x -> x.isWhole(3)).says("x")
            .asks(true, x -> x.isWhole(1)).asks(false, x -> x.isWhole(3)).runs("shout 3 q", 1)
            .asks(true, x -> x.isWhole(3));
        // echoes as long as the word: not the same in the first letter alone, in the last one alone, and the same
        promise(27, "Returns whether it would.").runs("dig 5 s;moss 0 1 1;frog 0 2 b;dig 5 m;frog 1 1 c", 5)
            .says("abb").asks('b', x -> x.echoLetter(0, 0)).asks(3, x -> x.echoLength(0))
            .asks(false, x -> x.isWhole(0)).does(9, x -> x.shout(0)).says("bba").asks('c', x -> x.echoLetter(1, 2))
            .asks(3, x -> x.echoLength(1)).asks(false, x -> x.isWhole(1)).runs("dig 5 m;frog 2 1 e", 2)
            .does(9, x -> x.shout(1)).says("bbc").asks(true, x -> x.isWhole(2)).asks(true, x -> x.isWhole(1));
        Run run = promise(27, NO_WELL).fails(Run.INDEX, x -> x.isWhole(0)).says("a")
            .fails(Run.INDEX, x -> x.isWhole(0)).does(0, x -> x.dig(1, 0)).asks(true, x -> x.isWhole(0))
            .fails(Run.INDEX, x -> x.isWhole(1));
        for (int wild : Run.WILD) {
            run.fails(Run.INDEX, x -> x.isWhole(wild));
        }
        promise(27, NO_WORD).does(0, x -> x.dig(1, 0)).fails(Run.ELEMENT, x -> x.isWhole(0)).says("a")
            .asks(true, x -> x.isWhole(0)).does(9, x -> x.shout(0)).fails(Run.ELEMENT, x -> x.isWhole(0));
    }

    private static void vowels() {
        promise(28, "Returns how many vowels the word has.").asks(0, x -> x.vowels()).says("bc")
            .asks(0, x -> x.vowels()).says("a").asks(1, x -> x.vowels()).says("zaeb").asks(3, x -> x.vowels())
            .does(0, x -> x.dig(1, 0)).does(9, x -> x.shout(0)).asks(0, x -> x.vowels()).says("aeiouaei")
            .asks(8, x -> x.vowels());
        promise(28, "Returns how many.").says("aeiou").asks(5, x -> x.vowels()).says("xyz")
            .asks(5, x -> x.vowels());
    }

    private static void reach() {
        promise(29, "Returns the coin that a rope would fish now.")
            .runs("rope 5;dig 9 s;bind 0 0;moss 0 1 1;coin 0 6 1", 5).runs("coin 0 5 2", 1).asks(2, x -> x.reach(0))
            .runs("coin 0 5 3", 1).asks(2, x -> x.reach(0)).runs("coin 0 4 3", 1).asks(4, x -> x.reach(0))
            .asks(4, x -> x.wellOf(0, 3)).does(3, x -> x.fish(0)).asks(2, x -> x.reach(0));
        promise(29, "Returns its number in the well.")
            .runs("dig 9 s;dig 9 s;coin 1 9 1;coin 1 8 2;rope 9;bind 0 1", 6).asks(1, x -> x.reach(0))
            .runs("take 1 1", 1).asks(0, x -> x.reach(0));
        Run run = promise(29, "Throws `IndexOutOfBoundsException` if there is no such rope")
            .fails(Run.INDEX, x -> x.reach(0));
        run.runs("dig 9 s;rope 9;bind 0 0;coin 0 1 1", 4).asks(0, x -> x.reach(0))
            .fails(Run.INDEX, x -> x.reach(1));
        for (int wild : Run.WILD) {
            run.fails(Run.INDEX, x -> x.reach(wild));
        }
        promise(29, "Throws `NoSuchElementException` if it would fish none").does(0, x -> x.rope(5))
            .fails(Run.ELEMENT, x -> x.reach(0)).runs("dig 9 s;bind 0 0", 2).fails(Run.ELEMENT, x -> x.reach(0))
            .runs("frog 0 1 a;moss 0 1 1;coin 0 6 1", 3).fails(Run.ELEMENT, x -> x.reach(0)).runs("coin 0 5 1", 1)
            .asks(3, x -> x.reach(0)).runs("fish 0", 1).fails(Run.ELEMENT, x -> x.reach(0))
            .runs("coin 0 1 1;fill 0", 2).fails(Run.ELEMENT, x -> x.reach(0));
    }

    private static void ranked() {
        Run run = promise(30, "Returns a well in an order, the greatest first, of several the lowest.");
        run.runs("dig 5 s;dig 7 s;dig 5 s;dig 9 s;moss 0 1 9", 5).runs("coin 2 1 1;coin 2 1 1", 2)
            .runs("shout 1 a;shout 3 a;shout 3 a", 3);
        order(run, 0, 3, 1, 0, 2);
        order(run, 1, 0, 3, 1, 2);
        order(run, 2, 2, 0, 1, 3);
        order(run, 3, 3, 1, 0, 2);
        run = promise(30, "- `kind`: 0 by depth, 1 by the time of an echo now, 2 by things, 3 by the echoes out of it so far")
            .busy();
        order(run, 0, 2, 1, 0, 3);
        order(run, 1, 2, 1, 0, 3);
        order(run, 2, 0, 1, 2, 3);
        order(run, 3, 0, 1, 2, 3);
        run.runs(" s;frog 3 1 a;frog 3 1 b", 3).runs("frog 3 1 c;coin 3 1 1;shout 2 ab", 3);
        order(run, 0, 2, 1, 0, 3, 4);
        order(run, 2, 3, 0, 1, 2, 4);
        order(run, 3, 0, 2, 1, 3, 4);
        run = promise(30, "- `place`: its place in the order, from 0")
            .runs("dig 5 s;dig 5 s;dig 5 s;dig 5 s;dig 5 s;dig 5 s", 6).runs("dig 5 s;dig 6 s", 2);
        order(run, 0, 7, 0, 1, 2, 3, 4, 5, 6);
        order(run, 2, 0, 1, 2, 3, 4, 5, 6, 7);
        promise(30, "Returns the well.").runs("dig 5 s;frog 0 1 a;dig 6 s", 3).asks(0, x -> x.ranked(1, 0))
            .runs("shout 0 a", 1).asks(1, x -> x.ranked(1, 0)).asks(0, x -> x.ranked(1, 1));
        run = promise(30, "Throws `IllegalArgumentException` if there is no such kind")
            .fails(Run.ARGUMENT, x -> x.ranked(4, 0)).does(0, x -> x.dig(5, 0)).asks(0, x -> x.ranked(3, 0))
            .asks(0, x -> x.ranked(0, 0)).fails(Run.ARGUMENT, x -> x.ranked(4, 0))
            .fails(Run.ARGUMENT, x -> x.ranked(4, 1));
        for (int wild : Run.WILD) {
            run.fails(Run.ARGUMENT, x -> x.ranked(wild, wild));
        }
        run = promise(30, "Throws `NoSuchElementException` if there is no such place")
            .fails(Run.ELEMENT, x -> x.ranked(0, 0)).runs("dig 5 s;dig 5 s", 2).asks(1, x -> x.ranked(0, 1))
            .fails(Run.ELEMENT, x -> x.ranked(0, 2)).fails(Run.ELEMENT, x -> x.ranked(3, 2));
        for (int wild : Run.WILD) {
            run.fails(Run.ELEMENT, x -> x.ranked(1, wild));
        }
    }

    private static void order(Run run, int kind, int... wells) {
        for (int i = 0; i < wells.length; i++) {
            int place = i;
            run.asks(wells[place], x -> x.ranked(kind, place));
        }
        run.fails(Run.ELEMENT, x -> x.ranked(kind, wells.length)).fails(Run.ELEMENT, x -> x.ranked(kind, -1));
    }

    private static void isTold() {
        promise(31, "Returns whether for all wells both ways to times agree, no thing is deeper than its well, and the letters of"
            + " all echoes are those that were shouted and those that frogs gave, less those that were lost.")
            .asks(true, x -> x.isTold()).busy().asks(true, x -> x.isTold()).does(3, x -> x.fill(1))
            .asks(true, x -> x.isTold()).does(7, x -> x.undo()).asks(true, x -> x.isTold())
            .does(3, x -> x.restore()).asks(true, x -> x.isTold());
        promise(31, "Returns whether this is so.")
            .runs("dig 9 m;frog 0 9 a;moss 0 3 4;coin 0 1 1;shout 0 mamaia", 5).asks(true, x -> x.isTold())
            .runs("dig 3 w;frog 1 3 a;frog 1 3 e;coin 1 3 3;shout 1 a", 5).asks(true, x -> x.isTold())
            .runs("fill 0", 1).asks(true, x -> x.isTold()).does(2, x -> x.undo()).asks(true, x -> x.isTold());
    }
}
