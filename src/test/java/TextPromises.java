/** The sentences of the promises 32 to 45: texts, reasons, lines, accounts, undo, and saving. */
final class TextPromises {
    private static final String NO_WELL = "Throws `IndexOutOfBoundsException` if there is no such well";

    private TextPromises() {
    }

    static void all() {
        append();
        run();
        faultPosition();
        reason();
        tellWord();
        tellEcho();
        tellWell();
        character();
        account();
        meanGrade();
        lostShare();
        undo();
        save();
        restore();
    }

    private static Run promise(int number, String sentence) {
        return new Run("Promise " + number, sentence);
    }

    private static void append() {
        promise(32, "Appends a character to the input.").busy().does(6, x -> x.append(' '))
            .does(7, x -> x.append('m')).asks(7, x -> x.account(13)).does(1, x -> x.run())
            .tells("3m", x -> x.tellWell(4));
        Run run = promise(32, "Returns the number of characters in the input.");
        for (int i = 1; i <= 60; i++) {
            int signs = i;
            run.does(signs, x -> x.append('a'));
        }
        run.asks(60, x -> x.account(12));
        run = promise(32, "Throws `IllegalArgumentException` if its code is not from 32 to 126");
        for (char wrong : new char[] {(char) 0, (char) 9, (char) 31, (char) 127, (char) 128, (char) 288, (char) 65535}) {
            run.fails(Run.ARGUMENT, x -> x.append(wrong));
        }
        run.does(1, x -> x.append((char) 32)).does(2, x -> x.append((char) 126)).does(3, x -> x.append((char) 33));
        promise(32, "Throws `IllegalStateException` if the input contains 60 characters")
            .feeds("wake;wake;wake;wake;wake;wake;wake;wake;wake;wake;wake;rope").asks(59, x -> x.account(12))
            .does(60, x -> x.append(' ')).fails(Run.STATE, x -> x.append('3'))
            .fails(Run.ARGUMENT, x -> x.append((char) 31)).fails(Run.ARGUMENT, x -> x.append((char) 127))
            .asks(60, x -> x.account(12));
        promise(32, "Throws `IllegalStateException` if the input contains 60 characters")
            .does(0, x -> x.dig(1, 0))
            .runs("wake;wake;wake;wake;wake;wake;wake;wake;wake;wake;coin 0 1 1", 11).does(1, x -> x.append('a'));
    }

    private static void run() {
        promise(33, "Reads the input as a text and does its orders, one after the other, all or none.")
            .runs("dig 9 m;frog 0 3 a;shout 0 ma;rope 4;bind 0 0;coin 0 5 7", 6).asks(1, x -> x.account(13))
            .tells("m", x -> x.tellEcho()).tells("9m fa@3 c7@5", x -> x.tellWell(0)).asks(0, x -> x.ropeOf(0, 1))
            .refusesText("fill 0;dig 3 s;wake;fish 0;fill 1", 3, 7, 4)
            .refusesText("fill 0;dig 3 s;wake;fill 1", 3, 2, 1)
            .refusesText("deepen 0 1;take 0 0;shout 0 ab;rope 5;bind 1 0;rope 0", 5, 3, 0)
            .faults("fill 0;fill x", 12).does(0, x -> x.undo()).asks(0, x -> x.account(0))
            .asks(0, x -> x.account(3)).asks(0, x -> x.account(5));
        promise(33, "The input is empty afterwards, also if an exception is thrown.").feeds("wake")
            .does(1, x -> x.run()).asks(0, x -> x.account(12)).feeds("fill 0")
            .does("throws." + Run.UNSUPPORTED.getName(), x -> x.run()).asks(0, x -> x.account(12)).feeds("wak")
            .does("throws." + Run.ARGUMENT.getName(), x -> x.run()).asks(0, x -> x.account(12))
            .does("throws." + Run.ARGUMENT.getName(), x -> x.run()).asks(0, x -> x.account(12))
            .does(1, x -> x.append('w'));
        promise(33, "Returns the number of orders.").runs("wake", 1).runs("wake;wake", 2)
            .runs("wake;wake;wake;wake;wake;wake;wake;wake;wake;wake;wake", 11)
            .runs("wake;wake;wake;wake;wake;wake;wake;wake;wake;wake;wake;wake", 12);
        promise(33, "Throws `IllegalArgumentException` if the text has a fault").busy().does("throws."
            + Run.ARGUMENT.getName(), x -> x.run()).asks(0, x -> x.account(12)).asks(5, x -> x.faultPosition())
            .faults("", 0).faults("dig 3 s;dig 3 x", 14).faults("wake;fill 9;x", 12)
            .asks(10, x -> x.reason(0, false)).asks(7, x -> x.account(13)).asks(4, x -> x.account(0));
        promise(33, "Throws `UnsupportedOperationException` if an order is refused, for the reasons for which its method is; the"
            + " reason 10 is kept").runs("dig 9 s;dig 9 s;dig 9 s;dig 9 s;dig 9 s;dig 9 s;dig 9 s", 7)
            .does(7, x -> x.dig(8, 0)).refusesText("wake;dig 9 s", 1, 1, 8)
            .refusesText("fill 0;dig 1 s;dig 1 s", 2, 1, 8).refusesText("dig 31 s", 0, 3, 31)
            .refusesText("deepen 8 1", 0, 2, 8).refusesText("deepen 0 99", 0, 3, 99)
            .refusesText("deepen 7 23", 0, 4, 22).refusesText("fill 8", 0, 2, 8).refusesText("coin 0 10 1", 0, 5, 9)
            .refusesText("coin 9 9 1", 0, 2, 9).refusesText("frog 0 99 a", 0, 3, 99)
            .refusesText("moss 0 1 0", 0, 3, 0).refusesText("take 0 0", 0, 2, 0).refusesText("rope 0", 0, 3, 0)
            .refusesText("bind 0 0", 0, 2, 0);
        promise(33, "Throws `UnsupportedOperationException` if an order is refused").does(0, x -> x.dig(9, 0))
            .runs("coin 0 1 1;coin 0 1 1;coin 0 1 1;coin 0 1 1", 4).refusesText("coin 0 1 1;frog 0 1 a", 1, 1, 5)
            .refusesText("rope 1;rope 2;rope 3;rope 4", 3, 1, 3).refusesText("rope 5;bind 0 0;bind 0 0", 2, 6, 0)
            .refusesText("rope 5;fish 0", 1, 7, 5).refusesText("dig 9 s;rope 5;bind 0 1;coin 1 6 6;fish 0", 4, 8, 1)
            .refusesText("fish 2", 0, 2, 2).refusesText("shout 0 abc;shout 9 abc", 1, 2, 9);
    }

    private static void faultPosition() {
        Run run = promise(34, "Returns the fault position of the latest text that was read.")
            .asks(-1, x -> x.faultPosition());
        run.faults("", 0).faults("wake;", 5).faults("dig 3 s;dig x", 12).faults("d", 1).faults("fill 10", 6)
            .runs("wake", 1).faults("wake;wake;wake;wake;wake;wake;wake;wake;wake;wake;wake;wake ", 59).feeds("dig")
            .asks(59, x -> x.faultPosition()).does("throws." + Run.ARGUMENT.getName(), x -> x.run())
            .asks(3, x -> x.faultPosition()).does(0, x -> x.wake()).asks(3, x -> x.faultPosition())
            .does(1, x -> x.undo()).asks(3, x -> x.faultPosition()).does(0, x -> x.save()).does(0, x -> x.restore())
            .asks(3, x -> x.faultPosition()).refuses(2, 0, x -> x.fill(0)).asks(3, x -> x.faultPosition());
        promise(34, "Returns the fault position, or -1 if it had no fault or nothing was read.")
            .asks(-1, x -> x.faultPosition()).feeds("xyz").asks(-1, x -> x.faultPosition())
            .does("throws." + Run.ARGUMENT.getName(), x -> x.run()).asks(0, x -> x.faultPosition())
            .runs("dig 3 s", 1).asks(-1, x -> x.faultPosition()).faults("dig 3", 5).refusesText("fill 1", 0, 2, 1)
            .asks(-1, x -> x.faultPosition()).refuses(2, 1, x -> x.fill(1)).asks(-1, x -> x.faultPosition());
    }

    private static void reason() {
        promise(35, "Returns a number of the reason that is kept, or of what is behind it.").busy()
            .asks(10, x -> x.reason(0, false)).asks(1, x -> x.reason(0, true)).asks(2, x -> x.reason(1, false))
            .asks(9, x -> x.reason(1, true)).refuses(8, 1, x -> x.fish(0)).feeds(" s;bind 1 2")
            .does("throws." + Run.UNSUPPORTED.getName(), x -> x.run()).asks(10, x -> x.reason(0, false))
            .asks(1, x -> x.reason(0, true)).asks(6, x -> x.reason(1, false)).asks(2, x -> x.reason(1, true));
        promise(35, "- `depth`: 0 for the reason, 1 for its cause")
            .refusesText("dig 3 s;dig 4 s;deepen 1 27", 2, 4, 26).asks(10, x -> x.reason(0, false))
            .asks(4, x -> x.reason(1, false)).asks(2, x -> x.reason(0, true)).asks(26, x -> x.reason(1, true));
        promise(35, "Returns the number.").refuses(3, Integer.MIN_VALUE, x -> x.dig(Integer.MIN_VALUE, 0))
            .refuses(2, Integer.MAX_VALUE, x -> x.fill(Integer.MAX_VALUE)).refuses(3, 0, x -> x.dig(0, 0));
        Run run = promise(35, "Throws `IllegalArgumentException` if the depth is not 0 or 1")
            .fails(Run.ARGUMENT, x -> x.reason(2, true)).fails(Run.ARGUMENT, x -> x.reason(-1, false))
            .refusesText("fill 0", 0, 2, 0).fails(Run.ARGUMENT, x -> x.reason(2, false));
        for (int wild : Run.WILD) {
            run.fails(Run.ARGUMENT, x -> x.reason(wild, true)).fails(Run.ARGUMENT, x -> x.reason(wild, false));
        }
        promise(35, "Throws `NoSuchElementException` if nothing was refused, or there is no cause")
            .fails(Run.ELEMENT, x -> x.reason(0, false)).fails(Run.ELEMENT, x -> x.reason(0, true))
            .fails(Run.ELEMENT, x -> x.reason(1, false)).fails(Run.ELEMENT, x -> x.reason(1, true)).faults("x", 0)
            .fails(Run.ARGUMENT, x -> x.letter('A')).fails(Run.ELEMENT, x -> x.reason(0, false))
            .refuses(2, 0, x -> x.fill(0)).refusesText("fill 0", 0, 2, 0).asks(0, x -> x.reason(1, true))
            .refuses(3, 31, x -> x.rope(31));
    }

    private static void tellWord() {
        promise(36, "Writes the word as a line of text, in place of the line before.").does(0, x -> x.dig(30, 0))
            .tells("30s", x -> x.tellWell(0)).tells("", x -> x.tellWord()).says("a")
            .fails(Run.INDEX, x -> x.character(0)).tells("a", x -> x.tellWord()).says("bcdefgh")
            .asks('a', x -> x.character(0)).fails(Run.INDEX, x -> x.character(1))
            .tells("abcdefgh", x -> x.tellWord()).does(6, x -> x.shout(0)).asks('h', x -> x.character(7))
            .tells("", x -> x.tellWord());
        promise(36, "Returns the length of the line.").asks(0, x -> x.tellWord()).says("zzzzzzzz")
            .tells("zzzzzzzz", x -> x.tellWord());
    }

    private static void tellEcho() {
        promise(37, "Writes the latest echo as a line of text, in place of the line before, empty if there was none.")
            .says("own").tells("own", x -> x.tellWord()).tells("", x -> x.tellEcho()).runs("dig 3 w;shout 0 ab", 2)
            .tells("ba", x -> x.tellEcho()).runs("shout 0 xyz", 1).asks('b', x -> x.character(0))
            .tells("zyx", x -> x.tellEcho()).does(1, x -> x.undo()).tells("ba", x -> x.tellEcho())
            .does(0, x -> x.undo()).tells("", x -> x.tellEcho()).runs("dig 3 m;shout 0 aei;shout 0 abc", 3)
            .tells("bc", x -> x.tellEcho()).runs("shout 0 aei;fill 0", 2).tells("", x -> x.tellEcho());
        promise(37, "Returns the length of the line.")
            .runs("dig 1 s;frog 0 1 a;frog 0 1 b;frog 0 1 c;frog 0 1 d", 5).runs("frog 0 1 e;shout 0 stuvwxyz", 2)
            .tells("stuvwxyzabcde", x -> x.tellEcho());
    }

    private static void tellWell() {
        promise(38, "Writes a well as a line of text, in place of the line before: its depth, \"s\", \"w\" or \"m\" for its"
            + " bottom, and for each thing by its number a blank, \"c\", \"f\" or \"m\", its value, its letter, as a capital"
            + " one if it is awake, or its thickness, \"@\" and its depth; as in \"12w c3@4 fK@5 m1@9\".")
            .runs("dig 12 w;dig 9 s;dig 30 m;coin 0 4 3;frog 0 5 k;moss 0 9 1", 6)
            .tells("12w c3@4 fK@5 m1@9", x -> x.tellWell(0)).tells("9s", x -> x.tellWell(1))
            .tells("30m", x -> x.tellWell(2)).runs("shout 0 q", 1).tells("12w c3@4 fk@5 m1@9", x -> x.tellWell(0))
            .does(1, x -> x.wake()).tells("12w c3@4 fK@5 m1@9", x -> x.tellWell(0))
            .runs("frog 1 9 a;frog 1 1 z;coin 1 3 9;dig 10 s", 4).tells("9s fA@9 fZ@1 c9@3", x -> x.tellWell(1))
            .tells("10s", x -> x.tellWell(3));
        promise(38, "Returns the length of the line.")
            .runs("dig 30 m;moss 0 30 9;moss 0 29 9;moss 0 20 9;moss 0 19 9", 5).runs("moss 0 10 9", 1)
            .tells("30m m9@30 m9@29 m9@20 m9@19 m9@10", x -> x.tellWell(0)).runs("dig 1 s", 1)
            .tells("1s", x -> x.tellWell(1));
        Run run = promise(38, NO_WELL).fails(Run.INDEX, x -> x.tellWell(0)).does(0, x -> x.dig(7, 0))
            .tells("7s", x -> x.tellWell(0)).fails(Run.INDEX, x -> x.tellWell(1)).asks('7', x -> x.character(0));
        for (int wild : Run.WILD) {
            run.fails(Run.INDEX, x -> x.tellWell(wild));
        }
    }

    private static void character() {
        promise(39, "Returns a character of the line, which is empty at first.")
            .fails(Run.INDEX, x -> x.character(0)).says("abc").fails(Run.INDEX, x -> x.character(0))
            .does(3, x -> x.tellWord()).asks('a', x -> x.character(0)).asks('b', x -> x.character(1))
            .asks('c', x -> x.character(2));
        promise(39, "- `index`: the index, from 0").says("abcdefgh").does(8, x -> x.tellWord())
            .asks('a', x -> x.character(0)).asks('h', x -> x.character(7)).fails(Run.INDEX, x -> x.character(8))
            .fails(Run.INDEX, x -> x.character(-1));
        promise(39, "Returns the character.").busy().asks('9', x -> x.character(0)).asks('5', x -> x.character(11))
            .asks(' ', x -> x.character(2)).asks('@', x -> x.character(5)).fails(Run.INDEX, x -> x.character(12));
        Run run = promise(39, "Throws `IndexOutOfBoundsException` if there is no such index")
            .fails(Run.INDEX, x -> x.character(0)).says("abc").does(3, x -> x.tellWord()).says("d")
            .fails(Run.INDEX, x -> x.character(3)).does(0, x -> x.dig(1, 0)).does(2, x -> x.tellWell(0))
            .asks('s', x -> x.character(1)).fails(Run.INDEX, x -> x.character(2));
        for (int wild : Run.WILD) {
            run.fails(Run.INDEX, x -> x.character(wild));
        }
        run.does(0, x -> x.tellEcho()).fails(Run.INDEX, x -> x.character(0));
    }

    private static void account() {
        int[] due = {4, 5, 1, 2, 3, 4, 14, 6, 3, 11, 3, 2, 5, 7};
        Run run = promise(40, "- `what`: 0 the wells; 1 the things in all wells; 2 the frogs that sleep; 3 the ropes; 4 the"
            + " letters of the word; 5 the echoes so far; 6 the letters shouted so far; 7 the letters lost on the way so far;"
            + " 8 the letters that frogs gave so far; 9 the letters of all echoes so far; 10 the value of all coins fished so"
            + " far; 11 how often frogs were woken so far, each counted; 12 the characters in the input; 13 the changes that"
            + " can be undone").busy();
        accounts(run, due);
        // what was so far stays so when wells and their things go
        run.runs(" s;fill 0;fill 0;fill 0;fill 0;fill 0", 6);
        accounts(run, 0, 0, 0, 2, 3, 4, 14, 6, 3, 11, 3, 2, 0, 8);
        promise(40, "Returns an account.").runs("dig 9 s;moss 0 1 1;frog 0 1 a;dig 9 s;frog 1 1 b", 5)
            .runs("frog 1 1 c;shout 1 xy;wake;shout 1 e", 4).asks(4, x -> x.account(1)).asks(2, x -> x.account(2))
            .asks(2, x -> x.account(11)).asks(3, x -> x.account(6)).asks(4, x -> x.account(8))
            .asks(7, x -> x.account(9));
        promise(40, "Returns the number.").feeds("wak").asks(3, x -> x.account(12)).says("ab")
            .asks(2, x -> x.account(4));
        run = promise(40, "Throws `IllegalArgumentException` if what is not 0 to 13").does(0, x -> x.dig(9, 0))
            .asks(1, x -> x.account(0)).asks(1, x -> x.account(13)).fails(Run.ARGUMENT, x -> x.account(14));
        for (int wild : Run.WILD) {
            run.fails(Run.ARGUMENT, x -> x.account(wild));
        }
    }

    private static void accounts(Run run, int... due) {
        for (int i = 0; i < due.length; i++) {
            int what = i;
            run.asks(due[what], x -> x.account(what));
        }
    }

    private static void meanGrade() {
        promise(41, "Returns the mean grade of the echoes so far: the sum, converted to double, divided by their number.")
            .runs("dig 5 s;dig 10 s;shout 0 a", 3).asks(9.0, x -> x.meanGrade()).runs("shout 1 a", 1)
            .asks(8.5, x -> x.meanGrade()).runs("shout 1 a", 1).asks(25.0 / 3, x -> x.meanGrade()).runs("fill 1", 1)
            .asks(25.0 / 3, x -> x.meanGrade()).does(3, x -> x.undo()).does(2, x -> x.undo())
            .asks(8.5, x -> x.meanGrade());
        promise(41, "Returns the mean.").runs("dig 30 s;coin 0 1 1;coin 0 1 1;coin 0 1 1", 4)
            .runs("shout 0 abcdefgh", 1).asks(0.0, x -> x.meanGrade()).runs("shout 0 abcde", 1)
            .asks(0.5, x -> x.meanGrade()).runs("shout 0 abcdefgh", 1).asks(1.0 / 3, x -> x.meanGrade());
        promise(41, "Throws `ArithmeticException` if there were none").fails(Run.ARITHMETIC, x -> x.meanGrade())
            .does(0, x -> x.dig(5, 0)).fails(Run.ARITHMETIC, x -> x.meanGrade()).runs("shout 0 a", 1)
            .asks(9.0, x -> x.meanGrade()).does(1, x -> x.undo()).fails(Run.ARITHMETIC, x -> x.meanGrade());
    }

    private static void lostShare() {
        promise(42, "Returns the share of the letters shouted so far, and of those that frogs gave, that were lost: the one"
            + " number, converted to float, divided by the sum of the others.")
            .runs("dig 5 m;frog 0 1 b;shout 0 xy", 3).asks(0f, x -> x.lostShare()).runs("shout 0 abc", 1)
            .asks(1f / 6, x -> x.lostShare()).runs("shout 0 aei", 1).asks(4f / 9, x -> x.lostShare());
        promise(42, "Returns the share.").busy().asks(6f / 17, x -> x.lostShare()).does(3, x -> x.fill(0))
            .asks(6f / 17, x -> x.lostShare()).does(3, x -> x.restore()).asks(4f / 11, x -> x.lostShare());
        promise(42, "Returns the share.").runs("dig 5 m;shout 0 a", 2).asks(1f, x -> x.lostShare());
        promise(42, "Throws `ArithmeticException` if there were no echoes")
            .fails(Run.ARITHMETIC, x -> x.lostShare()).runs("dig 5 s;frog 0 1 a", 2).says("a")
            .fails(Run.ARITHMETIC, x -> x.lostShare()).does(8, x -> x.shout(0)).asks(0f, x -> x.lostShare())
            .does(1, x -> x.undo()).fails(Run.ARITHMETIC, x -> x.lostShare());
    }

    private static void undo() {
        promise(43, "Undoes the latest change that was not undone.").runs("dig 9 w;moss 0 1 1;shout 0 abe", 3)
            .does(0, x -> x.undo())
            .undoesAll(x -> x.dig(9, 1), x -> x.frog(0, 3, 'k'), x -> x.rope(5), x -> x.bind(0, 0),
                x -> x.coin(0, 2, 7), x -> text(x, "shout 0 hello"), x -> x.fish(0), x -> x.wake());
        promise(43, "Undoes the latest change that was not undone.").busy().does(6, x -> x.undo())
            .does(5, x -> x.undo()).does(4, x -> x.undo()).does(3, x -> x.undo()).does(2, x -> x.undo())
            .does(1, x -> x.undo()).asks(2, x -> x.account(5)).asks(0, x -> x.account(11))
            .tells("9w c9@6 fk@5", x -> x.tellWell(0)).asks(2, x -> x.account(2)).does(0, x -> x.undo())
            .tells("20m m2@9 fZ@1", x -> x.tellWell(1)).asks(1, x -> x.account(5)).tells("olle", x -> x.tellEcho())
            .fails(Run.STATE, x -> x.undo());
        promise(43, "Undoes the latest change that was not undone.")
            .undoesAll(x -> text(x, "dig 9 s;coin 0 1 1;rope 2"),
            x -> x.moss(0, 3, 3), x -> x.deepen(0, 5), x -> x.bind(0, 0), x -> text(x, "frog 0 1 a;shout 0 ab;wake"),
            x -> x.take(0, 0), x -> x.fill(0), x -> x.dig(3, 0));
        Run run = promise(43, "Returns the number of changes that can still be undone.");
        for (int i = 0; i < 7; i++) {
            int well = i;
            run.does(well, x -> x.dig(1 + well, 0));
        }
        run.does(6, x -> x.fill(0)).asks(8, x -> x.account(13)).does(0, x -> x.wake()).does(0, x -> x.rope(3))
            .asks(8, x -> x.account(13)).does(7, x -> x.undo()).asks(0, x -> x.account(3)).does(6, x -> x.undo())
            .does(5, x -> x.undo()).asks(7, x -> x.account(0)).asks(1, x -> x.wellOf(0, 0)).does(4, x -> x.undo())
            .does(6, x -> x.dig(9, 2)).asks(5, x -> x.account(13));
        for (int i = 4; i >= 0; i--) {
            int left = i;
            run.does(left, x -> x.undo()).asks(left, x -> x.account(13));
        }
        run.asks(2, x -> x.account(0)).fails(Run.STATE, x -> x.undo());
        promise(43, "Throws `IllegalStateException` if there is none").fails(Run.STATE, x -> x.undo())
            .does(0, x -> x.wake()).does(0, x -> x.undo()).fails(Run.STATE, x -> x.undo())
            .refuses(2, 0, x -> x.fill(0)).fails(Run.STATE, x -> x.undo()).refusesText("wake;fill 0", 1, 2, 0)
            .fails(Run.STATE, x -> x.undo()).faults("wake;", 5).fails(Run.STATE, x -> x.undo())
            .does(0, x -> x.save()).fails(Run.STATE, x -> x.undo()).does(0, x -> x.wake()).does(0, x -> x.restore())
            .fails(Run.STATE, x -> x.undo());
    }

    private static int text(EchoWells x, String text) {
        for (int i = 0; i < text.length(); i++) {
            x.append(text.charAt(i));
        }
        return x.run();
    }

    private static void save() {
        promise(44, "Saves all that goes back when a change is undone, in place of what was saved before.").busy()
            .restores(4, x -> x.fill(0), x -> x.fish(1), x -> x.wake(), x -> x.deepen(0, 3), x -> x.take(0, 0),
                x -> x.dig(1, 1), x -> x.rope(1), x -> x.bind(2, 1), x -> text(x, " s;shout 0 ab;shout 1 ba"), x -> x.undo(),
                x -> x.append('d'), x -> x.append('i'), x -> x.append('g'), x -> x.append(' '), x -> x.append('3'));
        promise(44, "Saves all that goes back when a change is undone, in place of what was saved before.")
            .does(0, x -> x.save()).does(0, x -> x.dig(5, 0)).does(1, x -> x.save()).does(1, x -> x.dig(6, 0))
            .does(1, x -> x.restore()).asks(5, x -> x.wellOf(0, 0)).does(0, x -> x.fill(0)).does(0, x -> x.save())
            .does(0, x -> x.dig(7, 0)).does(0, x -> x.restore()).fails(Run.INDEX, x -> x.wellOf(0, 0));
        Run run = promise(44, "Returns the wells.").does(0, x -> x.save());
        for (int i = 0; i < 8; i++) {
            int well = i;
            run.does(well, x -> x.dig(1 + well, 0)).does(well + 1, x -> x.save()).asks(Math.min(8, well + 1),
                x -> x.account(13));
        }
        run.does(7, x -> x.undo()).does(7, x -> x.save()).asks(7, x -> x.account(13)).does(6, x -> x.undo())
            .does(7, x -> x.restore());
    }

    private static void restore() {
        promise(45, "Restores what was saved, which stays saved.")
            .runs("dig 9 w;frog 0 1 a;coin 0 3 2;rope 5;bind 0 0", 5).runs("shout 0 xyz", 1).does(1, x -> x.save())
            .runs("wake;fish 0;shout 0 abc;fill 0;dig 3 s;dig 4 s;rope 2", 7).does(1, x -> x.restore())
            .tells("9w fa@1 c2@3", x -> x.tellWell(0)).tells("zy", x -> x.tellEcho()).asks(1, x -> x.account(3))
            .asks(0, x -> x.ropeOf(0, 1)).asks(0, x -> x.ropeOf(0, 2)).asks(0, x -> x.account(11))
            .does(0, x -> x.fill(0)).does(0, x -> x.dig(1, 2)).does(1, x -> x.restore())
            .tells("9w fa@1 c2@3", x -> x.tellWell(0)).asks(1, x -> x.account(5)).asks(7, x -> x.bookOf(0, 4))
            .asks(7.0, x -> x.meanGrade()).does(1, x -> x.wake()).does(1, x -> x.restore())
            .asks(0, x -> x.wellOf(0, 4));
        // the word, the input, the fault, the reason and the line are not saved, and stay
        promise(45, "Restores what was saved, which stays saved.").does(0, x -> x.save()).says("abc").feeds("dig")
            .does(3, x -> x.tellWord()).refuses(2, 7, x -> x.fill(7)).does(0, x -> x.restore())
            .asks(3, x -> x.account(4)).asks(3, x -> x.account(12)).asks('b', x -> x.character(1))
            .asks(7, x -> x.reason(0, true)).does("throws." + Run.ARGUMENT.getName(), x -> x.run())
            .does(0, x -> x.restore()).asks(3, x -> x.faultPosition());
        // another rope in the place of one that was saved
        promise(45, "Restores what was saved, which stays saved.")
            .runs("dig 9 w;dig 5 s;rope 5;bind 0 1;coin 1 1 1;fish 0", 6).does(2, x -> x.save())
            .does(0, x -> x.undo()).does(0, x -> x.rope(9)).does(2, x -> x.restore()).asks(5, x -> x.ropeOf(0, 0))
            .asks(1, x -> x.ropeOf(0, 1)).asks(1, x -> x.ropeOf(0, 2));
        promise(45, "No changes can be undone then.").busy().asks(7, x -> x.account(13)).does(3, x -> x.restore())
            .asks(0, x -> x.account(13)).fails(Run.STATE, x -> x.undo()).does(3, x -> x.dig(9, 0))
            .asks(1, x -> x.account(13)).does(0, x -> x.undo()).asks(3, x -> x.account(0))
            .fails(Run.STATE, x -> x.undo());
        Run run = promise(45, "No changes can be undone then.").does(0, x -> x.save());
        for (int i = 0; i < 11; i++) {
            run.does(0, x -> x.wake());
        }
        run.does(0, x -> x.restore());
        for (int i = 1; i <= 9; i++) {
            int changes = Math.min(8, i);
            run.does(0, x -> x.wake()).asks(changes, x -> x.account(13));
        }
        promise(45, "Returns the wells.").does(0, x -> x.save()).does(0, x -> x.dig(5, 0)).does(0, x -> x.restore())
            .runs("dig 1 s;dig 1 s;dig 1 s;dig 1 s;dig 1 s;dig 1 s;dig 1 s", 7).does(7, x -> x.dig(1, 0))
            .does(8, x -> x.save()).does(7, x -> x.fill(0)).does(8, x -> x.restore());
        promise(45, "Throws `IllegalStateException` if nothing was saved").fails(Run.STATE, x -> x.restore())
            .does(0, x -> x.dig(5, 0)).fails(Run.STATE, x -> x.restore()).does(0, x -> x.undo())
            .fails(Run.STATE, x -> x.restore()).does(0, x -> x.save()).does(0, x -> x.restore());
    }
}
