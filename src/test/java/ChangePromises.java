/** The sentences of the promises 1 to 14: a new object, and what changes it. */
final class ChangePromises {
    private ChangePromises() {
    }

    static void all() {
        newObject();
        dig();
        deepen();
        fill();
        coin();
        frog();
        moss();
        take();
        wake();
        rope();
        bind();
        fish();
        letter();
        shout();
    }

    private static Run promise(int number, String sentence) {
        return new Run("Promise " + number, sentence);
    }

    /** A refusal for reasons that a sentence of a promise names. */
    private static Run refusal(int number, String reasons) {
        return promise(number, "Throws `UnsupportedOperationException` if it is refused for the reason " + reasons
            + "; the reason is kept");
    }

    private static void newObject() {
        Run run = promise(1, "Creates a machine without wells and ropes.");
        for (int i = 0; i <= 13; i++) {
            int what = i;
            run.asks(0, x -> x.account(what));
        }
        run.asks(0, x -> x.vowels()).asks(-1, x -> x.faultPosition()).asks(true, x -> x.isTold())
            .fails(Run.INDEX, x -> x.wellOf(0, 0)).fails(Run.INDEX, x -> x.thingOf(0, 0, 0))
            .fails(Run.INDEX, x -> x.ropeOf(0, 0)).fails(Run.ELEMENT, x -> x.bookOf(0, 0))
            .fails(Run.INDEX, x -> x.time(0)).fails(Run.INDEX, x -> x.timeAgain(0))
            .fails(Run.INDEX, x -> x.isLater(0, 0)).fails(Run.INDEX, x -> x.echoLength(0))
            .fails(Run.INDEX, x -> x.tellWell(0)).fails(Run.INDEX, x -> x.reach(0))
            .fails(Run.ELEMENT, x -> x.ranked(0, 0)).fails(Run.ELEMENT, x -> x.reason(0, false))
            .fails(Run.INDEX, x -> x.character(0)).fails(Run.STATE, x -> x.undo())
            .fails(Run.STATE, x -> x.restore());
    }

    private static void dig() {
        promise(2, "Digs a well.").undoes(0, x -> x.dig(12, 1)).does(0, x -> x.dig(12, 1)).does(1, x -> x.dig(1, 2))
            .tells("12w", x -> x.tellWell(0)).tells("1m", x -> x.tellWell(1)).asks(2, x -> x.account(0))
            .asks(0, x -> x.wellOf(1, 5)).asks(0, x -> x.wellOf(1, 6)).asks(0, x -> x.wellOf(1, 7));
        promise(2, "Returns its number.").busy().does(4, x -> x.dig(30, 0)).does(4, x -> x.fill(4))
            .does(4, x -> x.dig(3, 0)).does(4, x -> x.fill(0)).does(4, x -> x.dig(3, 0)).does(5, x -> x.dig(3, 0));
        // a well in the place of one that went has nothing of it
        promise(2, "Digs a well.").runs("dig 9 s;coin 0 1 1;shout 0 ab;rope 5;bind 0 0", 5).does(0, x -> x.fill(0))
            .does(0, x -> x.dig(7, 1)).tells("7w", x -> x.tellWell(0)).asks(0, x -> x.wellOf(0, 5))
            .asks(0, x -> x.wellOf(0, 6)).asks(0, x -> x.wellOf(0, 7)).does(0, x -> x.coin(0, 7, 1));
        Run run = refusal(2, "3 or 1").refuses(3, 0, x -> x.dig(0, 0)).refuses(3, 31, x -> x.dig(31, 3))
            .refuses(3, 3, x -> x.dig(30, 3)).refuses(3, -1, x -> x.dig(1, -1)).does(0, x -> x.dig(30, 2))
            .does(1, x -> x.dig(1, 0));
        for (int wild : Run.WILD) {
            run.refuses(3, wild, x -> x.dig(wild, 0));
            run.refuses(3, wild, x -> x.dig(5, wild));
        }
        refusal(2, "3 or 1").runs("dig 1 s;dig 1 s;dig 1 s;dig 1 s;dig 1 s;dig 1 s", 6).does(6, x -> x.dig(1, 0))
            .does(7, x -> x.dig(1, 0)).refuses(1, 8, x -> x.dig(1, 0)).refuses(3, 31, x -> x.dig(31, 0))
            .refuses(3, 3, x -> x.dig(1, 3)).refuses(1, 8, x -> x.dig(30, 2));
    }

    private static void deepen() {
        promise(3, "Makes a well deeper.").busy().undoes(10, x -> x.deepen(0, 1)).does(11, x -> x.deepen(0, 2))
            .asks(11, x -> x.wellOf(0, 0)).asks(20, x -> x.wellOf(1, 0)).tells("11w c9@6 fk@5", x -> x.tellWell(0))
            .asks(22, x -> x.time(0)).does(2, x -> x.coin(0, 11, 1));
        promise(3, "Returns its depth then.").runs("dig 1 s;dig 5 w", 2).does(2, x -> x.deepen(0, 1))
            .does(4, x -> x.deepen(0, 2)).does(30, x -> x.deepen(0, 26)).does(6, x -> x.deepen(1, 1));
        promise(3, "- `metres`: by how many metres, 1 to 29").runs("dig 1 s;dig 1 s", 2)
            .refuses(3, 0, x -> x.deepen(0, 0)).refuses(3, 30, x -> x.deepen(0, 30))
            .refuses(3, -1, x -> x.deepen(0, -1)).does(2, x -> x.deepen(0, 1)).does(30, x -> x.deepen(1, 29))
            .does(30, x -> x.deepen(0, 28));
        Run run = refusal(3, "2, 3 or 4").refuses(2, 0, x -> x.deepen(0, 0)).does(0, x -> x.dig(10, 0))
            .refuses(2, 1, x -> x.deepen(1, 30)).refuses(3, 30, x -> x.deepen(0, 30))
            .refuses(4, 20, x -> x.deepen(0, 21)).refuses(4, 20, x -> x.deepen(0, 29))
            .does(30, x -> x.deepen(0, 20)).refuses(4, 0, x -> x.deepen(0, 1));
        for (int wild : Run.WILD) {
            run.refuses(2, wild, x -> x.deepen(wild, 1));
            run.refuses(3, wild, x -> x.deepen(0, wild));
        }
    }

    private static void fill() {
        promise(4, "Lets a well go.").busy().undoes(3, x -> x.fill(0)).undoes(3, x -> x.fill(2))
            .does(3, x -> x.fill(0)).tells("20m m2@9 fZ@1", x -> x.tellWell(0))
            .tells("30s c7@30", x -> x.tellWell(1)).tells("3m", x -> x.tellWell(2)).asks(-1, x -> x.ropeOf(0, 1))
            .asks(1, x -> x.ropeOf(1, 1)).asks(1, x -> x.ropeOf(0, 2)).asks(0, x -> x.bookOf(0, 0))
            .asks(2, x -> x.bookOf(1, 0)).asks(1, x -> x.bookOf(2, 0)).asks(4, x -> x.account(5))
            .asks(6.5, x -> x.meanGrade()).asks(1, x -> x.wellOf(0, 5)).asks(6, x -> x.wellOf(0, 6))
            .asks(1, x -> x.wellOf(1, 7)).asks(0, x -> x.wellOf(0, 7));
        promise(4, "Returns how many wells there are then.").busy().does(3, x -> x.fill(3)).does(2, x -> x.fill(0))
            .does(1, x -> x.fill(1)).tells("20m m2@9 fZ@1", x -> x.tellWell(0)).does(0, x -> x.fill(0))
            .fails(Run.INDEX, x -> x.wellOf(0, 0)).asks(0, x -> x.account(1)).asks(2, x -> x.account(3));
        Run run = refusal(4, "2").refuses(2, 0, x -> x.fill(0)).does(0, x -> x.dig(9, 0))
            .refuses(2, 1, x -> x.fill(1));
        for (int wild : Run.WILD) {
            run.refuses(2, wild, x -> x.fill(wild));
        }
        run.does(0, x -> x.fill(0)).refuses(2, 0, x -> x.fill(0));
    }

    private static void coin() {
        promise(5, "Lets a coin come into a well.").busy().undoes(2, x -> x.coin(0, 9, 1))
            .does(2, x -> x.coin(0, 9, 9)).asks(0, x -> x.thingOf(0, 2, 0)).asks(9, x -> x.thingOf(0, 2, 1))
            .asks(9, x -> x.thingOf(0, 2, 2)).asks(0, x -> x.thingOf(0, 2, 3)).asks(6, x -> x.account(1));
        Run run = promise(5, "Returns its number in the well.").runs("dig 5 s;dig 5 s;coin 1 1 1", 3);
        for (int i = 0; i < 5; i++) {
            int number = i;
            run.does(number, x -> x.coin(0, 5 - number, 9 - number)).asks(9 - number, x -> x.thingOf(0, number, 2))
                .asks(5 - number, x -> x.thingOf(0, number, 1));
        }
        run.refuses(1, 5, x -> x.coin(0, 1, 1)).does(1, x -> x.coin(1, 1, 1));
        run = refusal(5, "2, 3, 5 or 1").refuses(2, 0, x -> x.coin(0, 0, 0)).does(0, x -> x.dig(5, 0))
            .refuses(3, 0, x -> x.coin(0, 0, 10)).refuses(3, 31, x -> x.coin(0, 31, 10))
            .refuses(3, 0, x -> x.coin(0, 5, 0)).refuses(3, 10, x -> x.coin(0, 6, 10))
            .refuses(5, 5, x -> x.coin(0, 6, 9)).refuses(5, 5, x -> x.coin(0, 30, 1));
        for (int wild : Run.WILD) {
            run.refuses(2, wild, x -> x.coin(wild, 1, 1));
            run.refuses(3, wild, x -> x.coin(0, wild, 1));
            run.refuses(3, wild, x -> x.coin(0, 1, wild));
        }
    }

    private static void frog() {
        promise(6, "Lets a frog come into a well.").busy().undoes(2, x -> x.frog(0, 9, 'a'))
            .does(2, x -> x.frog(0, 9, 'z')).asks(1, x -> x.thingOf(0, 2, 0)).asks(9, x -> x.thingOf(0, 2, 1))
            .asks(25, x -> x.thingOf(0, 2, 2)).asks(1, x -> x.thingOf(0, 2, 3)).asks(1, x -> x.wellOf(0, 4))
            .asks(1, x -> x.account(2));
        Run run = promise(6, "Returns its number in the well.").runs("dig 5 s;dig 5 s;frog 1 1 a", 3);
        for (int i = 0; i < 5; i++) {
            int number = i;
            run.does(number, x -> x.frog(0, 5, (char) ('v' + number)))
                .asks(21 + number, x -> x.thingOf(0, number, 2));
        }
        run.refuses(1, 5, x -> x.frog(0, 1, 'a')).does(1, x -> x.frog(1, 1, 'a'));
        run = refusal(6, "2, 3, 5 or 1").refuses(2, 1, x -> x.frog(1, 0, 'A')).does(0, x -> x.dig(5, 0))
            .refuses(3, 0, x -> x.frog(0, 0, 'A')).refuses(3, 31, x -> x.frog(0, 31, 'a'))
            .refuses(3, 65, x -> x.frog(0, 6, 'A')).refuses(3, 90, x -> x.frog(0, 1, 'Z'))
            .refuses(3, 96, x -> x.frog(0, 5, '`')).refuses(3, 123, x -> x.frog(0, 5, '{'))
            .refuses(3, 353, x -> x.frog(0, 5, (char) ('a' + 256))).refuses(5, 5, x -> x.frog(0, 6, 'a'));
        for (int wild : Run.WILD) {
            run.refuses(2, wild, x -> x.frog(wild, 1, 'a'));
            run.refuses(3, wild, x -> x.frog(0, wild, 'a'));
        }
    }

    private static void moss() {
        promise(7, "Lets moss come into a well.").busy().undoes(2, x -> x.moss(0, 9, 1))
            .does(2, x -> x.moss(0, 9, 9)).asks(2, x -> x.thingOf(0, 2, 0)).asks(9, x -> x.thingOf(0, 2, 1))
            .asks(9, x -> x.thingOf(0, 2, 2)).asks(0, x -> x.thingOf(0, 2, 3)).asks(18 + 18, x -> x.time(0));
        Run run = promise(7, "Returns its number in the well.").runs("dig 5 s;dig 5 s;moss 1 1 1", 3);
        for (int i = 0; i < 5; i++) {
            int number = i;
            run.does(number, x -> x.moss(0, 1 + number, 9 - number)).asks(9 - number, x -> x.thingOf(0, number, 2));
        }
        run.refuses(1, 5, x -> x.moss(0, 1, 1)).does(1, x -> x.moss(1, 1, 1));
        run = refusal(7, "2, 3, 5 or 1").refuses(2, 0, x -> x.moss(0, 0, 0)).does(0, x -> x.dig(5, 0))
            .refuses(3, 31, x -> x.moss(0, 31, 0)).refuses(3, 0, x -> x.moss(0, 6, 0))
            .refuses(3, 10, x -> x.moss(0, 6, 10)).refuses(5, 5, x -> x.moss(0, 6, 9))
            .refuses(5, 5, x -> x.moss(0, 30, 1));
        for (int wild : Run.WILD) {
            run.refuses(2, wild, x -> x.moss(wild, 1, 1));
            run.refuses(3, wild, x -> x.moss(0, wild, 1));
            run.refuses(3, wild, x -> x.moss(0, 1, wild));
        }
    }

    private static void take() {
        promise(8, "Takes a thing out of a well.").busy().undoes(1, x -> x.take(0, 0)).undoes(1, x -> x.take(0, 1))
            .undoes(1, x -> x.take(1, 0)).does(1, x -> x.take(1, 0)).tells("20m fZ@1", x -> x.tellWell(1))
            .asks(1, x -> x.thingOf(1, 0, 3)).asks(0, x -> x.thingOf(1, 0, 4)).does(1, x -> x.take(0, 0))
            .tells("9w fk@5", x -> x.tellWell(0)).asks(0, x -> x.thingOf(0, 0, 3));
        promise(8, "Returns how many things the well has then.").runs("dig 9 s;moss 0 1 1;moss 0 1 2;moss 0 1 3", 4)
            .runs("moss 0 1 4;moss 0 1 5;dig 9 s;moss 1 1 6", 4)
            .does(4, x -> x.take(0, 4)).does(3, x -> x.take(0, 0)).does(2, x -> x.take(0, 1))
            .does(1, x -> x.take(0, 1)).tells("9s m2@1", x -> x.tellWell(0)).does(0, x -> x.take(0, 0))
            .asks(1, x -> x.account(1));
        Run run = refusal(8, "2, for the well, then for the thing").refuses(2, 3, x -> x.take(3, 7))
            .does(0, x -> x.dig(9, 0)).refuses(2, 0, x -> x.take(0, 0)).refuses(2, 1, x -> x.take(1, 0))
            .does(0, x -> x.coin(0, 1, 1)).refuses(2, 1, x -> x.take(0, 1));
        for (int wild : Run.WILD) {
            run.refuses(2, wild, x -> x.take(wild, 0));
            run.refuses(2, wild, x -> x.take(0, wild));
        }
        run.does(0, x -> x.take(0, 0)).refuses(2, 0, x -> x.take(0, 0));
    }

    private static void wake() {
        promise(9, "Wakes all frogs.").busy().undoes(1, x -> x.wake()).does(1, x -> x.wake())
            .asks(0, x -> x.account(2)).asks(1, x -> x.thingOf(0, 1, 3)).asks(0, x -> x.thingOf(0, 0, 3))
            .asks(0, x -> x.thingOf(1, 0, 3)).asks(1, x -> x.wellOf(0, 4)).asks(3, x -> x.account(11));
        promise(9, "Returns how many of them slept.").does(0, x -> x.wake())
            .runs("dig 4 s;dig 5 s;frog 0 1 a;frog 0 1 b", 4).runs("frog 1 1 c;moss 1 1 1;coin 1 1 1", 3)
            .does(0, x -> x.wake()).runs("shout 1 q", 1).does(1, x -> x.wake()).runs("shout 0 q;shout 1 q", 2)
            .asks(3, x -> x.account(2)).does(3, x -> x.wake()).does(0, x -> x.wake()).asks(4, x -> x.account(11))
            .runs("shout 0 q;take 0 0", 2).does(1, x -> x.wake()).asks(5, x -> x.account(11));
    }

    private static void rope() {
        promise(10, "Lets a rope come.").busy().undoes(2, x -> x.rope(7)).does(2, x -> x.rope(7))
            .asks(7, x -> x.ropeOf(2, 0)).asks(-1, x -> x.ropeOf(2, 1)).asks(0, x -> x.ropeOf(2, 2))
            .asks(3, x -> x.account(3));
        promise(10, "Returns its number.").does(0, x -> x.rope(1)).does(1, x -> x.rope(30)).does(1, x -> x.undo())
            .does(1, x -> x.rope(2)).does(2, x -> x.rope(3)).asks(2, x -> x.ropeOf(1, 0));
        // a rope in the place of one that was undone has nothing of it
        promise(10, "Lets a rope come.").does(0, x -> x.dig(5, 0)).runs("rope 9;bind 0 0;coin 0 1 7;fish 0", 4)
            .does(1, x -> x.undo()).does(0, x -> x.rope(8)).asks(8, x -> x.ropeOf(0, 0))
            .asks(-1, x -> x.ropeOf(0, 1)).asks(0, x -> x.ropeOf(0, 2));
        Run run = refusal(10, "3 or 1").refuses(3, 0, x -> x.rope(0)).refuses(3, 31, x -> x.rope(31));
        for (int wild : Run.WILD) {
            run.refuses(3, wild, x -> x.rope(wild));
        }
        run.does(0, x -> x.rope(30)).does(1, x -> x.rope(1)).does(2, x -> x.rope(5)).refuses(1, 3, x -> x.rope(5))
            .refuses(3, 31, x -> x.rope(31)).refuses(3, 0, x -> x.rope(0)).refuses(1, 3, x -> x.rope(30));
    }

    private static void bind() {
        promise(11, "Binds a rope to a well.").busy().undoes(1, x -> x.bind(0, 3)).undoes(2, x -> x.bind(1, 0))
            .does(1, x -> x.bind(0, 3)).asks(3, x -> x.ropeOf(0, 1)).asks(2, x -> x.ropeOf(1, 1))
            .asks(0, x -> x.wellOf(0, 7)).asks(1, x -> x.wellOf(3, 7));
        promise(11, "Returns how many ropes are bound to this well then.")
            .runs("dig 1 s;dig 2 s;rope 1;rope 2;rope 3", 5).does(1, x -> x.bind(0, 1)).does(2, x -> x.bind(1, 1))
            .does(3, x -> x.bind(2, 1)).asks(3, x -> x.wellOf(1, 7)).does(1, x -> x.bind(1, 0))
            .does(2, x -> x.bind(0, 0)).asks(1, x -> x.wellOf(1, 7)).does(2, x -> x.bind(1, 1));
        Run run = refusal(11, "2, for the rope, then for the well, or 6").refuses(2, 0, x -> x.bind(0, 2))
            .does(0, x -> x.rope(5)).refuses(2, 0, x -> x.bind(0, 0)).refuses(2, -1, x -> x.bind(0, -1))
            .does(0, x -> x.dig(5, 0)).refuses(2, 1, x -> x.bind(1, 0)).refuses(2, 1, x -> x.bind(0, 1))
            .does(1, x -> x.bind(0, 0)).refuses(6, 0, x -> x.bind(0, 0)).refuses(2, 1, x -> x.bind(1, 0));
        for (int wild : Run.WILD) {
            run.refuses(2, wild, x -> x.bind(wild, 0));
            run.refuses(2, wild, x -> x.bind(0, wild));
        }
    }

    private static void fish() {
        promise(12, "Fishes with a rope.").busy().undoes(7, x -> x.fish(1)).does(7, x -> x.fish(1))
            .tells("30s", x -> x.tellWell(2)).asks(1, x -> x.ropeOf(1, 2)).asks(1, x -> x.ropeOf(0, 2))
            .asks(10, x -> x.account(10)).asks(2, x -> x.ropeOf(1, 1));
        promise(12, "Returns the value of the coin.").runs("dig 9 s;coin 0 9 1;coin 0 8 9;coin 0 8 5;rope 9", 5)
            .runs("bind 0 0;frog 0 1 a", 2).does(9, x -> x.fish(0)).does(5, x -> x.fish(0)).does(1, x -> x.fish(0))
            .asks(15, x -> x.account(10)).asks(3, x -> x.ropeOf(0, 2)).tells("9s fA@1", x -> x.tellWell(0));
        Run run = refusal(12, "2, 7 or 8").refuses(2, 0, x -> x.fish(0)).does(0, x -> x.rope(4))
            .refuses(2, 1, x -> x.fish(1)).refuses(7, 4, x -> x.fish(0)).runs("dig 9 s;bind 0 0", 2)
            .refuses(8, 0, x -> x.fish(0)).runs("coin 0 5 9;frog 0 1 a", 2).refuses(8, 1, x -> x.fish(0))
            .does(0, x -> x.fill(0)).refuses(7, 4, x -> x.fish(0));
        for (int wild : Run.WILD) {
            run.refuses(2, wild, x -> x.fish(wild));
        }
    }

    private static void letter() {
        promise(13, "Puts a letter behind the word.").busy().does(4, x -> x.letter('z'))
            .tells("abez", x -> x.tellWord()).asks(7, x -> x.account(13)).does(5, x -> x.letter('a'))
            .tells("abeza", x -> x.tellWord());
        Run run = promise(13, "Returns how many letters the word has then.");
        for (int i = 1; i <= 8; i++) {
            int letters = i;
            run.does(letters, x -> x.letter((char) ('s' + letters % 8))).asks(letters, x -> x.account(4));
        }
        run.tells("tuvwxyzs", x -> x.tellWord());
        run = promise(13, "Throws `IllegalArgumentException` if it is no letter from a to z");
        for (char wrong : new char[] {'`', '{', 'A', 'Z', ' ', '0', (char) 0, (char) 225, (char) 353, (char) 65535}) {
            run.fails(Run.ARGUMENT, x -> x.letter(wrong));
        }
        run.does(1, x -> x.letter('a')).does(2, x -> x.letter('z'));
        promise(13, "Throws `IllegalStateException` if the word has 8 letters").says("abcdefg")
            .does(8, x -> x.letter('h')).fails(Run.STATE, x -> x.letter('i'))
            .fails(Run.ARGUMENT, x -> x.letter('I')).tells("abcdefgh", x -> x.tellWord()).does(0, x -> x.dig(1, 0))
            .does(9, x -> x.shout(0)).does(1, x -> x.letter('i'));
    }

    private static void shout() {
        promise(14, "Shouts the word into a well.").runs("dig 12 w;coin 0 4 3;frog 0 5 k;moss 0 9 1", 4)
            .echoes(0, "hello", "kll", 29, 6).asks(0, x -> x.account(4)).asks(0, x -> x.thingOf(0, 1, 3))
            .asks(5, x -> x.account(6)).asks(3, x -> x.account(7)).asks(1, x -> x.account(8))
            .asks(3, x -> x.account(9)).echoes(0, "hello", "ll", 26, 5).asks(6, x -> x.account(7))
            .asks(2, x -> x.wellOf(0, 5)).asks(11, x -> x.wellOf(0, 6)).asks(2, x -> x.account(13 - 8));
        promise(14, "Shouts the word into a well.").busy().undoes(6, x -> x.shout(1), "word");
        promise(14, "Returns the grade of the echo.").runs("dig 9 s;dig 30 s;dig 20 m", 3).says("abc")
            .does(9, x -> x.shout(0)).says("abc").does(6, x -> x.shout(1)).says("aei").does(4, x -> x.shout(2));
        Run run = refusal(14, "2 or 9").refuses(2, 0, x -> x.shout(0)).does(0, x -> x.dig(5, 0))
            .refuses(9, 0, x -> x.shout(0)).refuses(2, 1, x -> x.shout(1)).says("a").refuses(2, 1, x -> x.shout(1));
        for (int wild : Run.WILD) {
            run.refuses(2, wild, x -> x.shout(wild));
        }
        run.does(9, x -> x.shout(0)).refuses(9, 1, x -> x.shout(0)).refuses(2, -1, x -> x.shout(-1));
    }
}
