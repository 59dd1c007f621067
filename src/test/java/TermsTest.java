/** The sentences of the document's 'Terms', one after the other, and the end of its 'What it is'. */
public final class TermsTest {
    private TermsTest() {
    }

    public static void main(String[] args) {
        lastCall();
        divisions();
        wellsAreNumbered();
        depthsAndBottoms();
        thingsAreNumbered();
        thingsLieInWells();
        valuesAndLetters();
        thingsLieInOrder();
        words();
        ways();
        echoesWithoutLetters();
        coins();
        moss();
        frogs();
        bottoms();
        times();
        grades();
        book();
        ropesAreNumbered();
        ropesOfWellsThatGo();
        fishing();
        TextTerms.all();
        tooMany();
        notThere();
        outOfRange();
        tooDeep();
        notSoDeep();
        soAlready();
        notBound();
        noCoin();
        noWord();
        orderRefused();
        firstReason();
        changes();
        latestChanges();
        whatStays();
        wordIsEmpty();
        textsHaveTheirWords();
        frogsAnswerOnce();
        whatWouldBe();
        depths();
        metresOnce();
        latestEcho();
        unchanged();
        firstException();
        reasonIsKept();
        Document.finish("Terms");
        Check.finish();
    }

    private static Run terms(String sentence) {
        return new Run("Terms", sentence);
    }

    // Each of the 512 calls answers, and the sums are as great then as calls can make them.
    private static void lastCall() {
        Document.quote("What it is", "An object is used for at most 512 calls after it has been made;"
            + " what later calls answer is free.");
        Check.is("512 calls: echoes", afterManyEchoes(x -> x.account(5)), 255);
        Check.is("512 calls: letters shouted", afterManyEchoes(x -> x.account(6)), 255);
        Check.is("512 calls: letters of echoes", afterManyEchoes(x -> x.account(9)), 255);
        Check.is("512 calls: letters lost", afterManyEchoes(x -> x.account(7)), 0);
        Check.is("512 calls: echoes of the well", afterManyEchoes(x -> x.wellOf(0, 5)), 255);
        Check.is("512 calls: grades of the well", afterManyEchoes(x -> x.wellOf(0, 6)), 2295);
        Check.is("512 calls: mean grade", afterManyEchoes(x -> x.meanGrade()), 9.0);
        Check.is("512 calls: share", afterManyEchoes(x -> x.lostShare()), 0f);
        Check.is("512 calls: told", afterManyEchoes(x -> x.isTold()), true);
        Check.is("512 calls: undo", afterManyEchoes(x -> x.undo()), 7);
        Check.is("512 calls: no word", afterManyEchoes(x -> x.shout(0)), "throws." + Run.UNSUPPORTED.getName());
        Check.is("512 calls: frogs woken", afterManyFrogs(x -> x.account(11)), 835);
        Check.is("512 calls: letters of frogs", afterManyFrogs(x -> x.account(8)), 835);
        Check.is("512 calls: letters of echoes with frogs", afterManyFrogs(x -> x.account(9)), 1002);
        Check.is("512 calls: coins", afterManyCoins(x -> x.ropeOf(0, 2)), 254);
        Check.is("512 calls: value of the coins", afterManyCoins(x -> x.account(10)), 2286);
    }

    private static Object afterManyEchoes(Run.Call last) {
        EchoWells x = new EchoWells();
        x.dig(9, 0);
        for (int i = 0; i < 255; i++) {
            x.letter('a');
            x.shout(0);
        }
        return Check.answer(() -> last.on(x));
    }

    private static Object afterManyFrogs(Run.Call last) {
        EchoWells x = new EchoWells();
        x.dig(1, 0);
        for (int i = 0; i < 5; i++) {
            x.frog(0, 1, 'z');
        }
        for (int i = 0; i < 167; i++) {
            x.letter('a');
            x.shout(0);
            x.wake();
        }
        for (int i = 0; i < 4; i++) {
            x.vowels();
        }
        return Check.answer(() -> last.on(x));
    }

    private static Object afterManyCoins(Run.Call last) {
        EchoWells x = new EchoWells();
        x.dig(1, 0);
        x.rope(1);
        x.bind(0, 0);
        for (int i = 0; i < 254; i++) {
            x.coin(0, 1, 9);
            x.fish(0);
        }
        return Check.answer(() -> last.on(x));
    }

    private static void divisions() {
        // names no bound
        Document.quote("Terms", "The class is not thread-safe.");
        terms("All divisions are rounded down, unless something else is told.")
            .does(0, x -> x.dig(8, 0)).does(0, x -> x.frog(0, 1, 'z'))
            .echoes(0, "b", "bz", 19, 8)
            .does(1, x -> x.dig(10, 0)).echoes(1, "b", "b", 20, 8)
            .does(2, x -> x.dig(18, 0)).does(0, x -> x.frog(2, 1, 'z')).echoes(2, "b", "bz", 39, 7)
            .does(3, x -> x.dig(20, 0)).echoes(3, "b", "b", 40, 7)
            .asks(7.5, x -> x.meanGrade());
    }

    private static void wellsAreNumbered() {
        Run run = terms("Wells. At most 8 wells are there, numbered from 0;");
        run.fails(Run.INDEX, x -> x.wellOf(0, 0));
        for (int i = 0; i < 8; i++) {
            int well = i;
            run.does(well, x -> x.dig(10 + well, 0)).asks(10 + well, x -> x.wellOf(well, 0))
                .asks(well + 1, x -> x.account(0)).fails(Run.INDEX, x -> x.wellOf(well + 1, 0));
        }
        run.fails(Run.INDEX, x -> x.wellOf(-1, 0)).refuses(1, 8, x -> x.dig(1, 0)).asks(8, x -> x.account(0))
            .does(7, x -> x.fill(7)).does(7, x -> x.dig(1, 0)).refuses(1, 8, x -> x.dig(1, 0));

        run = terms("when one goes, the numbers of later ones become 1 less.");
        run.runs("dig 10 s;dig 11 w;dig 12 m;dig 13 s;dig 14 w;dig 15 m", 6)
            .runs("dig 16 s;dig 17 w;coin 7 1 7;coin 3 1 3;rope 5;bind 0 7", 6);
        run.does(7, x -> x.fill(3)).asks(12, x -> x.wellOf(2, 0)).asks(14, x -> x.wellOf(3, 0))
            .asks(1, x -> x.wellOf(3, 1)).asks(17, x -> x.wellOf(6, 0)).asks(7, x -> x.thingOf(6, 0, 2))
            .asks(0, x -> x.wellOf(3, 2)).asks(6, x -> x.ropeOf(0, 1)).fails(Run.INDEX, x -> x.wellOf(7, 0));
        run.does(6, x -> x.fill(0)).asks(11, x -> x.wellOf(0, 0)).asks(17, x -> x.wellOf(5, 0))
            .asks(5, x -> x.ropeOf(0, 1)).fails(Run.INDEX, x -> x.wellOf(6, 0));
        run.does(5, x -> x.fill(4)).asks(15, x -> x.wellOf(3, 0)).asks(17, x -> x.wellOf(4, 0))
            .asks(4, x -> x.ropeOf(0, 1));
        run.does(4, x -> x.fill(4)).asks(15, x -> x.wellOf(3, 0)).fails(Run.INDEX, x -> x.wellOf(4, 0))
            .asks(-1, x -> x.ropeOf(0, 1));
    }

    private static void depthsAndBottoms() {
        Run run = terms("A well has a depth from 1 to 30 metres, and a bottom: 0 for stone, 1 for water, 2 for mud.");
        run.refuses(3, 0, x -> x.dig(0, 0)).refuses(3, 31, x -> x.dig(31, 0)).refuses(3, -1, x -> x.dig(-1, 0))
            .refuses(3, -1, x -> x.dig(1, -1)).refuses(3, 3, x -> x.dig(30, 3)).asks(0, x -> x.account(0));
        run.does(0, x -> x.dig(1, 0)).does(1, x -> x.dig(2, 1)).does(2, x -> x.dig(29, 2))
            .does(3, x -> x.dig(30, 0)).asks(1, x -> x.wellOf(0, 0)).asks(2, x -> x.wellOf(1, 0))
            .asks(29, x -> x.wellOf(2, 0)).asks(30, x -> x.wellOf(3, 0)).asks(0, x -> x.wellOf(0, 1))
            .asks(1, x -> x.wellOf(1, 1)).asks(2, x -> x.wellOf(2, 1));
        run.echoes(0, "abe", "abe", 2, 9).echoes(1, "abe", "eba", 4, 9).echoes(2, "abe", "b", 58, 5);
    }

    private static void thingsAreNumbered() {
        Run run = terms("Things. In a well there are at most 5 things, numbered from 0;");
        run.does(0, x -> x.dig(9, 0)).does(1, x -> x.dig(9, 0)).fails(Run.INDEX, x -> x.thingOf(0, 0, 0))
            .does(0, x -> x.coin(0, 9, 1)).does(1, x -> x.frog(0, 8, 'b')).does(2, x -> x.moss(0, 7, 3))
            .does(3, x -> x.coin(0, 6, 4)).asks(4, x -> x.wellOf(0, 2)).fails(Run.INDEX, x -> x.thingOf(0, 4, 0))
            .does(4, x -> x.frog(0, 5, 'f')).asks(5, x -> x.wellOf(0, 2)).asks(5, x -> x.thingOf(0, 4, 1))
            .fails(Run.INDEX, x -> x.thingOf(0, 5, 0)).fails(Run.INDEX, x -> x.thingOf(0, -1, 0))
            .refuses(1, 5, x -> x.coin(0, 1, 1)).refuses(1, 5, x -> x.frog(0, 1, 'a'))
            .refuses(1, 5, x -> x.moss(0, 1, 1)).does(0, x -> x.moss(1, 1, 1)).asks(6, x -> x.account(1));

        run = terms("when one goes, the numbers of later ones become 1 less. Each");
        run.runs("dig 9 s;coin 0 1 9;frog 0 2 h;moss 0 3 7;coin 0 4 6", 5).runs("frog 0 5 e", 1)
            .does(4, x -> x.take(0, 2)).asks(2, x -> x.thingOf(0, 1, 1)).asks(7, x -> x.thingOf(0, 1, 2))
            .asks(0, x -> x.thingOf(0, 2, 0)).asks(4, x -> x.thingOf(0, 2, 1)).asks(6, x -> x.thingOf(0, 2, 2))
            .asks(1, x -> x.thingOf(0, 3, 0)).asks(4, x -> x.thingOf(0, 3, 2)).asks(1, x -> x.thingOf(0, 3, 3))
            .does(3, x -> x.take(0, 0)).asks(1, x -> x.thingOf(0, 0, 0)).asks(1, x -> x.thingOf(0, 0, 3))
            .asks(0, x -> x.thingOf(0, 1, 3)).does(2, x -> x.take(0, 2)).asks(6, x -> x.thingOf(0, 1, 2))
            .fails(Run.INDEX, x -> x.thingOf(0, 2, 0)).does(2, x -> x.coin(0, 9, 1));
    }

    private static void thingsLieInWells() {
        Run run = terms("Each is at a depth from 1 to that of the well.");
        run.does(0, x -> x.dig(7, 0)).does(1, x -> x.dig(30, 0))
            .refuses(3, 0, x -> x.coin(0, 0, 1)).refuses(3, 0, x -> x.frog(0, 0, 'a'))
            .refuses(3, 0, x -> x.moss(0, 0, 1)).refuses(5, 7, x -> x.coin(0, 8, 1))
            .refuses(5, 7, x -> x.frog(0, 8, 'a')).refuses(5, 7, x -> x.moss(0, 8, 1)).does(0, x -> x.coin(0, 1, 1))
            .does(1, x -> x.frog(0, 7, 'a')).does(2, x -> x.moss(0, 6, 1)).does(0, x -> x.coin(1, 30, 1))
            .does(1, x -> x.frog(1, 29, 'a')).does(2, x -> x.moss(1, 30, 1)).does(8, x -> x.deepen(0, 1))
            .does(3, x -> x.coin(0, 8, 2)).refuses(5, 8, x -> x.coin(0, 9, 2)).asks(7, x -> x.thingOf(0, 1, 1))
            .asks(8, x -> x.thingOf(0, 3, 1));
    }

    private static void valuesAndLetters() {
        Run run = terms("A coin has a value from 1 to 9; a frog has a letter from a to z, and is awake, as it is when it"
            + " comes, or sleeps; moss has a thickness from 1 to 9.");
        run.does(0, x -> x.dig(9, 0)).does(1, x -> x.dig(9, 0))
            .refuses(3, 0, x -> x.coin(0, 1, 0)).refuses(3, 10, x -> x.coin(0, 1, 10))
            .does(0, x -> x.coin(0, 1, 1)).does(1, x -> x.coin(0, 1, 9)).asks(9, x -> x.thingOf(0, 1, 2))
            .refuses(3, 0, x -> x.moss(0, 1, 0)).refuses(3, 10, x -> x.moss(0, 1, 10))
            .does(2, x -> x.moss(0, 1, 1)).does(3, x -> x.moss(0, 1, 9)).asks(9, x -> x.thingOf(0, 3, 2))
            .refuses(3, 96, x -> x.frog(1, 1, '`')).refuses(3, 123, x -> x.frog(1, 1, '{'))
            .refuses(3, 65, x -> x.frog(1, 1, 'A')).does(0, x -> x.frog(1, 1, 'a')).does(1, x -> x.frog(1, 1, 'z'))
            .asks(0, x -> x.thingOf(1, 0, 2)).asks(25, x -> x.thingOf(1, 1, 2))
            .asks(1, x -> x.thingOf(1, 0, 3)).asks(1, x -> x.thingOf(1, 1, 3)).asks(0, x -> x.account(2))
            .says("q").does(6, x -> x.shout(1)).asks(0, x -> x.thingOf(1, 0, 3)).asks(0, x -> x.thingOf(1, 1, 3))
            .does(2, x -> x.frog(1, 1, 'b')).asks(1, x -> x.thingOf(1, 2, 3)).asks(2, x -> x.account(2));
    }

    private static void thingsLieInOrder() {
        terms("Things lie one under the other by their depths, and those at one depth by their numbers, the lowest first.")
            .runs("dig 9 s;frog 0 5 a;frog 0 9 b;frog 0 5 c", 4).runs("frog 0 1 d;frog 0 9 e", 2)
            .asks(1, x -> x.thingOf(0, 0, 4)).asks(3, x -> x.thingOf(0, 1, 4)).asks(2, x -> x.thingOf(0, 2, 4))
            .asks(0, x -> x.thingOf(0, 3, 4)).asks(4, x -> x.thingOf(0, 4, 4))
            .echoes(0, "x", "xdacbe", 33, 3)
            .does(4, x -> x.take(0, 0)).asks(1, x -> x.thingOf(0, 1, 4)).asks(2, x -> x.thingOf(0, 0, 4));
    }

    private static void words() {
        Run run = terms("Words and echoes. A word has 1 to 8 letters from a to z;");
        run.does(0, x -> x.dig(9, 0)).refuses(9, 0, x -> x.shout(0)).echoes(0, "z", "z", 18, 9)
            .fails(Run.ARGUMENT, x -> x.letter('`')).fails(Run.ARGUMENT, x -> x.letter('{'));
        for (int i = 1; i <= 8; i++) {
            int letters = i;
            run.does(letters, x -> x.letter(letters == 1 ? 'a' : 'z'));
        }
        run.fails(Run.STATE, x -> x.letter('a')).tells("azzzzzzz", x -> x.tellWord()).asks(8, x -> x.echoLength(0))
            .does(9, x -> x.shout(0)).asks(8, x -> x.bookOf(0, 1)).asks(9, x -> x.account(6))
            .runs("shout 0 a", 1).runs("shout 0 abcdefgh", 1).faults("shout 0 abcdefghi", 16).faults("shout 0 ", 8);

        run = terms("the vowels are a, e, i, o and u.");
        run.does(0, x -> x.dig(1, 2));
        for (char letter = 'a'; letter <= 'z'; letter++) {
            String word = String.valueOf(letter);
            boolean isVowel = "aeiou".indexOf(letter) >= 0;
            run.says(word).asks(isVowel ? 1 : 0, x -> x.vowels()).asks(isVowel ? 0 : 1, x -> x.echoLength(0))
                .does(isVowel ? 8 : 9, x -> x.shout(0));
        }
    }

    private static void ways() {
        terms("When a word is shouted into a well, it goes down past its things, from the top on; it is turned by the"
            + " bottom; and it goes up past them, in the other order.")
            // down: frog x, coin; water; up: coin, nothing of the frog
            .runs("dig 9 w;frog 0 1 x;coin 0 5 1", 3).echoes(0, "abcd", "dcb", 21, 7)
            // down: coin, frog x; water; up: coin
            .runs("dig 9 w;frog 1 5 x;coin 1 1 1", 3).echoes(1, "abcd", "xcb", 21, 7)
            // down: coin, moss; stone; up: moss, coin
            .runs("dig 9 s;moss 2 2 1;coin 2 1 1", 3).echoes(2, "xaaq", "", 20, 4)
            // down: moss, coin; stone; up: coin, moss
            .runs("dig 9 s;moss 3 1 1;coin 3 2 1", 3).echoes(3, "xaaq", "x", 20, 5)
            // the same at one depth, by their numbers
            .runs("dig 9 s;coin 4 9 1;moss 4 9 1", 3).echoes(4, "xaaq", "", 20, 4)
            .runs("dig 9 s;moss 5 9 1;coin 5 9 1", 3).echoes(5, "xaaq", "x", 20, 5);
    }

    private static void echoesWithoutLetters() {
        terms("What is left of it is the echo, which can have no letters.")
            .runs("dig 9 m;dig 9 s;coin 1 1 1;dig 9 s", 4)
            .echoes(0, "aeiou", "", 18, 4).echoes(1, "ab", "", 18, 7).echoes(1, "abc", "a", 18, 7)
            .echoes(2, "abc", "abc", 18, 9).asks(0, x -> x.bookOf(3, 2)).asks(4, x -> x.account(9));
    }

    private static void coins() {
        terms("Past a coin it loses its last letter, if it has one.")
            .runs("dig 5 s;coin 0 1 1;dig 5 w;coin 1 1 9", 4)
            .echoes(0, "abc", "a", 10, 7).echoes(0, "ab", "", 10, 7).echoes(0, "a", "", 10, 8)
            .echoes(1, "abc", "b", 10, 7).echoes(1, "a", "", 10, 8).asks(4 + 4, x -> x.account(7))
            .runs("coin 0 1 1;coin 0 2 2;coin 0 5 5;coin 0 4 4", 4)
            .echoes(0, "abcdefgh", "", 10, 1).echoes(0, "z", "", 10, 8).asks(8 + 9, x -> x.account(7));
    }

    private static void moss() {
        terms("Past moss it loses its first vowel, if it has one.")
            .runs("dig 5 s;moss 0 1 1;dig 5 w;moss 1 1 1", 4)
            .echoes(0, "xaebi", "xbi", 12, 7).echoes(0, "bay", "by", 12, 8).echoes(0, "xyz", "xyz", 12, 9)
            .echoes(0, "a", "", 12, 8).echoes(0, "au", "", 12, 7).echoes(1, "abeci", "ceb", 12, 7)
            .echoes(1, "zu", "z", 12, 8).asks(2 + 1 + 1 + 2 + 2 + 1, x -> x.account(7));
    }

    private static void frogs() {
        terms("Past a frog that is awake it gets the letter of the frog behind its last one, and the frog sleeps then.")
            .runs("dig 5 s;frog 0 1 x;dig 5 w;frog 1 3 y;frog 1 3 z", 5)
            .echoes(0, "ab", "abx", 13, 8).asks(0, x -> x.thingOf(0, 0, 3)).asks(1, x -> x.account(2))
            .echoes(0, "ab", "ab", 10, 9)
            .echoes(1, "ab", "zyba", 16, 7).asks(0, x -> x.wellOf(1, 4)).asks(3, x -> x.account(2))
            .echoes(1, "ab", "ba", 10, 9).asks(3, x -> x.account(8))
            .runs("dig 1 s;coin 2 1 1;frog 2 1 q", 3)
            .does(3, x -> x.wake()).echoes(2, "a", "", 5, 8).asks(4, x -> x.account(8)).asks(1, x -> x.account(2));
    }

    private static void bottoms() {
        terms("Stone leaves it as it is, water makes it go the other way round, and mud takes all its vowels away.")
            .runs("dig 5 s;dig 5 w;dig 5 m", 3)
            .echoes(0, "abecidof", "abecidof", 10, 9).echoes(1, "abecidof", "fodiceba", 10, 9)
            .echoes(1, "abc", "cba", 10, 9).echoes(1, "ab", "ba", 10, 9).echoes(1, "a", "a", 10, 9)
            .echoes(1, "level", "level", 10, 9).echoes(2, "abecidof", "bcdf", 10, 5)
            .echoes(2, "aabbee", "bb", 10, 5).echoes(2, "xyz", "xyz", 10, 9).echoes(2, "aeiouaei", "", 10, 1);
    }

    private static void times() {
        Run run = terms("Times. An echo takes 2 units of time for each metre of depth, as many as the thickness tells each"
            + " time it goes past moss, and 3 for each frog that answers.");
        run.does(0, x -> x.dig(1, 0)).asks(2, x -> x.time(0)).does(1, x -> x.dig(30, 1)).asks(60, x -> x.time(1))
            .does(0, x -> x.coin(1, 30, 9)).asks(60, x -> x.time(1))
            .does(1, x -> x.moss(1, 30, 1)).asks(62, x -> x.time(1)).does(2, x -> x.moss(1, 1, 9))
            .asks(80, x -> x.time(1)).does(3, x -> x.frog(1, 1, 'a')).asks(83, x -> x.time(1))
            .does(4, x -> x.frog(1, 30, 'b')).asks(86, x -> x.time(1)).echoes(1, "xyz", "bzy", 86, 5)
            .asks(80, x -> x.time(1)).does(2, x -> x.wake()).asks(86, x -> x.time(1)).asks(86, x -> x.timeAgain(1));
    }

    private static void grades() {
        terms("Grades. The grade of an echo is 9, less by how many letters the word has more, or fewer, than the echo, and"
            + " less 1 for each 20 units of time; but not less than 0.")
            .runs("dig 9 s;dig 10 s;dig 29 s;dig 30 s", 4)
            .echoes(0, "abc", "abc", 18, 9).echoes(1, "abc", "abc", 20, 8).echoes(2, "abc", "abc", 58, 7)
            .echoes(3, "abc", "abc", 60, 6)
            .runs("coin 0 1 1;frog 1 1 q", 2).echoes(0, "abc", "a", 18, 7).echoes(1, "abc", "abcq", 23, 7)
            .does(1, x -> x.wake()).does(1, x -> x.frog(1, 1, 'r')).echoes(1, "abc", "abcqr", 26, 6);
        terms("but not less than 0.")
            .runs("dig 30 s;coin 0 1 1;coin 0 1 1;coin 0 1 1;dig 29 s", 5)
            .runs("coin 1 1 1;coin 1 1 1;coin 1 1 1", 3)
            .echoes(1, "abcdef", "", 58, 1).echoes(0, "abcdef", "", 60, 0).echoes(0, "abcde", "", 60, 1)
            .does(3, x -> x.coin(0, 1, 1)).echoes(0, "abcdefg", "", 60, 0).echoes(0, "abcdefgh", "", 60, 0)
            .asks(1, x -> x.wellOf(0, 6));
    }

    private static void book() {
        Run run = terms("The book. It has the latest 6 echoes, the latest one first, with the number of the well as it was"
            + " then.");
        run.runs("dig 10 s;dig 15 s;dig 20 s;dig 25 s;dig 30 s", 5).fails(Run.ELEMENT, x -> x.bookOf(0, 0));
        for (int i = 0; i < 7; i++) {
            int echo = i;
            run.says("abcdefgh".substring(0, 1 + echo)).does(8 - echo % 5 / 2, x -> x.shout(echo % 5))
                .asks(echo % 5, x -> x.bookOf(0, 0)).asks(1 + echo, x -> x.bookOf(0, 1))
                .asks(Math.max(0, echo - 5) % 5, x -> x.bookOf(Math.min(5, echo), 0))
                .asks(Math.max(1, echo - 4), x -> x.bookOf(Math.min(5, echo), 1))
                .fails(Run.ELEMENT, x -> x.bookOf(Math.min(5, echo) + 1, 0));
        }
        // the oldest one that is left was out of well 1, with 2 letters, 30 units of time and the grade 8
        run.asks(1, x -> x.bookOf(5, 0)).asks(2, x -> x.bookOf(5, 2)).asks(30, x -> x.bookOf(5, 3))
            .asks(8, x -> x.bookOf(5, 4)).asks(7, x -> x.account(5))
            .does(4, x -> x.fill(0)).asks(1, x -> x.bookOf(0, 0)).asks(0, x -> x.bookOf(1, 0))
            .asks(4, x -> x.bookOf(2, 0)).does(3, x -> x.fill(0)).asks(1, x -> x.bookOf(0, 0))
            .asks(1, x -> x.bookOf(5, 0));
    }

    private static void ropesAreNumbered() {
        terms("Ropes. At most 3 ropes are there, numbered from 0, each with a length from 1 to 30, and bound to a well or"
            + " to none, as at first.")
            .fails(Run.INDEX, x -> x.ropeOf(0, 0)).refuses(3, 0, x -> x.rope(0)).refuses(3, 31, x -> x.rope(31))
            .does(0, x -> x.rope(1)).fails(Run.INDEX, x -> x.ropeOf(1, 0)).does(1, x -> x.rope(30))
            .asks(2, x -> x.account(3)).does(2, x -> x.rope(29)).asks(29, x -> x.ropeOf(2, 0))
            .fails(Run.INDEX, x -> x.ropeOf(3, 0)).fails(Run.INDEX, x -> x.ropeOf(-1, 0))
            .refuses(1, 3, x -> x.rope(2)).asks(1, x -> x.ropeOf(0, 0)).asks(30, x -> x.ropeOf(1, 0))
            .asks(-1, x -> x.ropeOf(0, 1)).asks(-1, x -> x.ropeOf(2, 1)).does(0, x -> x.dig(1, 0))
            .does(1, x -> x.bind(2, 0)).asks(-1, x -> x.ropeOf(1, 1)).asks(0, x -> x.ropeOf(2, 1))
            .asks(3, x -> x.account(3));
    }

    private static void ropesOfWellsThatGo() {
        terms("If the well to which it is bound goes, it is bound to none.")
            .runs("dig 5 s;dig 5 s;dig 5 s;rope 5;rope 6;rope 7", 6)
            .runs("bind 0 0;bind 1 1;bind 2 2;coin 1 5 1", 4).does(2, x -> x.fill(1)).asks(0, x -> x.ropeOf(0, 1))
            .asks(-1, x -> x.ropeOf(1, 1)).asks(1, x -> x.ropeOf(2, 1)).refuses(7, 6, x -> x.fish(1))
            .fails(Run.ELEMENT, x -> x.reach(1)).does(1, x -> x.fill(0)).asks(-1, x -> x.ropeOf(0, 1))
            .asks(0, x -> x.ropeOf(2, 1)).does(2, x -> x.bind(0, 0)).does(0, x -> x.fill(0))
            .asks(-1, x -> x.ropeOf(0, 1)).asks(-1, x -> x.ropeOf(1, 1)).asks(-1, x -> x.ropeOf(2, 1))
            .does(0, x -> x.dig(3, 0)).asks(-1, x -> x.ropeOf(2, 1)).asks(0, x -> x.wellOf(0, 7));
    }

    private static void fishing() {
        Run run = terms("To fish with a rope takes the uppermost coin of its well that is not deeper than its length.");
        run.runs("dig 9 s;rope 4;bind 0 0;moss 0 1 1", 4).refuses(8, 0, x -> x.fish(0))
            .does(1, x -> x.coin(0, 5, 8)).refuses(8, 1, x -> x.fish(0)).fails(Run.ELEMENT, x -> x.reach(0))
            .does(2, x -> x.coin(0, 4, 1)).asks(2, x -> x.reach(0))
            .does(3, x -> x.coin(0, 3, 2)).asks(3, x -> x.reach(0)).does(4, x -> x.coin(0, 3, 3))
            .asks(3, x -> x.reach(0)).does(2, x -> x.fish(0)).does(3, x -> x.fish(0)).asks(2, x -> x.ropeOf(0, 2))
            .does(1, x -> x.fish(0)).refuses(8, 1, x -> x.fish(0)).asks(6, x -> x.account(10))
            .asks(3, x -> x.ropeOf(0, 2)).asks(8, x -> x.thingOf(0, 1, 2)).asks(2, x -> x.wellOf(0, 2))
            .does(1, x -> x.rope(5)).does(2, x -> x.bind(1, 0)).does(8, x -> x.fish(1))
            .refuses(8, 0, x -> x.fish(1));
    }

    private static void tooMany() {
        terms("1, there are 8 wells, 5 things in the well, or 3 ropes: this number;")
            .runs("dig 1 s;dig 1 s;dig 1 s;dig 1 s;dig 1 s;dig 1 s;dig 1 s", 7).does(7, x -> x.dig(1, 0))
            .refuses(1, 8, x -> x.dig(2, 1)).runs("moss 7 1 1;moss 7 1 1;moss 7 1 1;moss 7 1 1", 4)
            .does(4, x -> x.moss(7, 1, 9)).refuses(1, 5, x -> x.coin(7, 1, 1)).refuses(1, 5, x -> x.frog(7, 1, 'a'))
            .refuses(1, 5, x -> x.moss(7, 1, 1)).does(0, x -> x.rope(9)).does(1, x -> x.rope(9))
            .does(2, x -> x.rope(9)).refuses(1, 3, x -> x.rope(9)).refusesText("wake;rope 9", 1, 1, 3)
            .refusesText("coin 7 1 1", 0, 1, 5);
    }

    private static void notThere() {
        Run run = terms("2, there is no such well, thing or rope: its number;");
        run.refuses(2, 0, x -> x.fill(0)).refuses(2, 0, x -> x.fish(0)).refuses(2, 0, x -> x.shout(0));
        run.runs("dig 5 s;dig 6 s;coin 1 1 1;coin 1 1 1;rope 5;rope 6", 6);
        run.refuses(2, 2, x -> x.deepen(2, 1)).refuses(2, 2, x -> x.fill(2)).refuses(2, 2, x -> x.coin(2, 1, 1))
            .refuses(2, 2, x -> x.frog(2, 1, 'a')).refuses(2, 2, x -> x.moss(2, 1, 1))
            .refuses(2, 2, x -> x.take(2, 0)).refuses(2, 2, x -> x.take(1, 2)).refuses(2, 0, x -> x.take(0, 0))
            .refuses(2, 2, x -> x.bind(2, 0)).refuses(2, 2, x -> x.bind(1, 2)).refuses(2, 2, x -> x.fish(2))
            .refuses(2, 2, x -> x.shout(2));
        for (int wild : Run.WILD) {
            run.refuses(2, wild, x -> x.deepen(wild, 1));
        }
        run.does(1, x -> x.take(1, 1)).does(1, x -> x.bind(1, 1)).does(1, x -> x.fill(0))
            .refuses(2, 1, x -> x.fill(1));
    }

    private static void outOfRange() {
        Run run = terms("3, a number is out of range: the number, for a letter its code;");
        run.does(0, x -> x.dig(5, 0));
        run.refuses(3, 0, x -> x.dig(0, 0)).refuses(3, 31, x -> x.dig(31, 0)).refuses(3, 3, x -> x.dig(1, 3))
            .refuses(3, 0, x -> x.deepen(0, 0)).refuses(3, 30, x -> x.deepen(0, 30))
            .refuses(3, 31, x -> x.coin(0, 31, 1)).refuses(3, 10, x -> x.coin(0, 1, 10))
            .refuses(3, 31, x -> x.frog(0, 31, 'a')).refuses(3, 96, x -> x.frog(0, 1, '`'))
            .refuses(3, 123, x -> x.frog(0, 1, '{')).refuses(3, 0, x -> x.frog(0, 1, (char) 0))
            .refuses(3, 225, x -> x.frog(0, 1, (char) 225)).refuses(3, 65535, x -> x.frog(0, 1, (char) 65535))
            .refuses(3, 31, x -> x.moss(0, 31, 1)).refuses(3, 0, x -> x.moss(0, 1, 0)).refuses(3, 0, x -> x.rope(0))
            .refuses(3, 31, x -> x.rope(31));
        for (int wild : Run.WILD) {
            run.refuses(3, wild, x -> x.rope(wild));
        }
    }

    private static void tooDeep() {
        terms("4, the well would be deeper than 30 metres: how many more it can be;")
            .does(0, x -> x.dig(10, 0)).does(1, x -> x.dig(1, 0)).refuses(4, 20, x -> x.deepen(0, 21))
            .refuses(4, 20, x -> x.deepen(0, 29)).does(29, x -> x.deepen(0, 19)).refuses(4, 1, x -> x.deepen(0, 2))
            .does(30, x -> x.deepen(0, 1)).refuses(4, 0, x -> x.deepen(0, 1)).refuses(4, 0, x -> x.deepen(0, 29))
            .does(30, x -> x.deepen(1, 29)).refuses(4, 0, x -> x.deepen(1, 1));
    }

    private static void notSoDeep() {
        terms("5, the well is not so deep: its depth;")
            .does(0, x -> x.dig(7, 0)).does(1, x -> x.dig(29, 0)).refuses(5, 7, x -> x.coin(0, 8, 1))
            .refuses(5, 7, x -> x.frog(0, 30, 'a')).refuses(5, 7, x -> x.moss(0, 9, 1))
            .refuses(5, 29, x -> x.coin(1, 30, 1)).does(0, x -> x.coin(0, 7, 1)).does(0, x -> x.moss(1, 29, 1))
            .does(30, x -> x.deepen(1, 1)).does(1, x -> x.coin(1, 30, 1));
    }

    private static void soAlready() {
        terms("6, it is so already: the well;")
            .runs("dig 5 s;dig 5 s;rope 5;rope 5;bind 0 1", 5).refuses(6, 1, x -> x.bind(0, 1))
            .asks(1, x -> x.wellOf(1, 7)).does(2, x -> x.bind(1, 1)).refuses(6, 1, x -> x.bind(1, 1))
            .does(1, x -> x.bind(0, 0)).refuses(6, 0, x -> x.bind(0, 0)).does(2, x -> x.bind(0, 1))
            .does(1, x -> x.fill(0)).refuses(6, 0, x -> x.bind(0, 0));
    }

    private static void notBound() {
        terms("7, the rope is bound to none: its length;")
            .does(0, x -> x.rope(30)).does(1, x -> x.rope(1)).refuses(7, 30, x -> x.fish(0))
            .refuses(7, 1, x -> x.fish(1)).does(0, x -> x.dig(5, 0)).does(0, x -> x.coin(0, 1, 4))
            .refuses(7, 30, x -> x.fish(0)).does(1, x -> x.bind(0, 0)).refuses(7, 1, x -> x.fish(1))
            .does(4, x -> x.fish(0)).does(0, x -> x.fill(0)).refuses(7, 30, x -> x.fish(0));
    }

    private static void noCoin() {
        terms("8, no coin is there for the rope: how many coins the well has;")
            .runs("dig 9 s;dig 9 s;coin 1 1 1;rope 3;bind 0 0", 5).refuses(8, 0, x -> x.fish(0))
            .runs("frog 0 1 a;moss 0 1 1;coin 0 4 9", 3).refuses(8, 1, x -> x.fish(0))
            .does(3, x -> x.coin(0, 9, 9)).refuses(8, 2, x -> x.fish(0)).does(4, x -> x.coin(0, 3, 5))
            .does(5, x -> x.fish(0)).refuses(8, 2, x -> x.fish(0));
    }

    private static void noWord() {
        terms("9, there is no word: how many echoes there were so far;")
            .does(0, x -> x.dig(9, 0)).refuses(9, 0, x -> x.shout(0)).says("a").does(9, x -> x.shout(0))
            .refuses(9, 1, x -> x.shout(0)).runs("shout 0 a;shout 0 a;shout 0 a;shout 0 a;shout 0 a;shout 0 a", 6)
            .refuses(9, 7, x -> x.shout(0)).does(2, x -> x.undo()).refuses(9, 1, x -> x.shout(0));
    }

    private static void orderRefused() {
        terms("10, an order of a text is refused: its index, from 0, with the reason of the order as its cause.")
            .does(0, x -> x.dig(7, 0)).refusesText("dig 31 s", 0, 3, 31)
            .refusesText("wake;wake;wake;fill 9", 3, 2, 9).refusesText("wake;deepen 0 24", 1, 4, 23)
            .refusesText("wake;wake;coin 0 8 1;fill 7", 2, 5, 7).refusesText("rope 5;bind 0 0;bind 0 0", 2, 6, 0)
            .refusesText("rope 5;fish 0", 1, 7, 5).refusesText("coin 0 6 1;rope 5;bind 0 0;fish 0", 3, 8, 1)
            .refusesText("rope 1;rope 1;rope 1;rope 1", 3, 1, 3)
            .refusesText("wake;wake;wake;wake;wake;wake;wake;wake;wake;wake;fill 9", 10, 2, 9);
    }

    private static void firstReason() {
        Run run = terms("Refusals. Something is refused for the first that applies of the reasons that its method names, in"
            + " the order in which it names them, with a detail:");
        run.runs("dig 7 s;dig 8 s;dig 9 s;dig 10 s;dig 11 s;dig 12 s;dig 13 s", 7).does(7, x -> x.dig(14, 0))
            .refuses(3, 31, x -> x.dig(31, 0)).refuses(3, 3, x -> x.dig(1, 3)).refuses(1, 8, x -> x.dig(1, 2))
            .runs("moss 0 1 1;moss 0 1 1;moss 0 1 1;moss 0 1 1;moss 0 1 1", 5)
            .refuses(2, 8, x -> x.coin(8, 31, 10)).refuses(3, 31, x -> x.coin(0, 31, 1))
            .refuses(3, 10, x -> x.coin(0, 8, 10)).refuses(5, 7, x -> x.coin(0, 8, 9))
            .refuses(1, 5, x -> x.coin(0, 7, 9)).refuses(2, -1, x -> x.frog(-1, 0, 'A'))
            .refuses(3, 0, x -> x.frog(0, 0, 'a')).refuses(3, 65, x -> x.frog(0, 8, 'A'))
            .refuses(5, 7, x -> x.frog(0, 8, 'a')).refuses(1, 5, x -> x.frog(0, 7, 'a'))
            .refuses(2, 8, x -> x.moss(8, 0, 0)).refuses(3, 0, x -> x.moss(0, 0, 1))
            .refuses(3, 0, x -> x.moss(0, 8, 0)).refuses(5, 7, x -> x.moss(0, 8, 1))
            .refuses(1, 5, x -> x.moss(0, 7, 1));
        run.refuses(2, 8, x -> x.deepen(8, 30)).refuses(3, 30, x -> x.deepen(0, 30))
            .refuses(4, 23, x -> x.deepen(0, 29)).refuses(2, 9, x -> x.take(9, 7)).refuses(2, 7, x -> x.take(0, 7))
            .refuses(2, 8, x -> x.shout(8)).refuses(9, 0, x -> x.shout(7)).refuses(2, 3, x -> x.bind(3, 9))
            .runs("rope 4;rope 5;rope 6;bind 0 7", 4).refuses(3, 31, x -> x.rope(31)).refuses(1, 3, x -> x.rope(30))
            .refuses(2, 3, x -> x.bind(3, 8)).refuses(2, 8, x -> x.bind(0, 8)).refuses(6, 7, x -> x.bind(0, 7))
            .refuses(2, 3, x -> x.fish(3)).refuses(7, 5, x -> x.fish(1)).refuses(8, 0, x -> x.fish(0));
    }

    private static void changes() {
        Run run = terms("Changes. The changes are the calls of dig, deepen, fill, coin, frog, moss, take, wake, rope, bind,"
            + " fish, shout and run that throw no exception, also if nothing is different then.");
        run.asks(0, x -> x.account(13)).does(0, x -> x.wake()).asks(1, x -> x.account(13)).runs("wake", 1)
            .asks(2, x -> x.account(13)).does(0, x -> x.dig(9, 0)).asks(3, x -> x.account(13))
            .does(10, x -> x.deepen(0, 1)).asks(4, x -> x.account(13)).does(0, x -> x.coin(0, 1, 1))
            .asks(5, x -> x.account(13)).does(1, x -> x.frog(0, 1, 'a')).asks(6, x -> x.account(13))
            .does(2, x -> x.moss(0, 1, 1)).asks(7, x -> x.account(13)).does(2, x -> x.take(0, 1))
            .asks(8, x -> x.account(13));
        for (int i = 7; i >= 0; i--) {
            int left = i;
            run.does(left, x -> x.undo());
        }
        run.asks(0, x -> x.account(0)).does(0, x -> x.rope(5)).asks(1, x -> x.account(13)).does(0, x -> x.dig(5, 0))
            .does(1, x -> x.bind(0, 0)).asks(3, x -> x.account(13)).does(0, x -> x.coin(0, 1, 1))
            .does(1, x -> x.fish(0)).asks(5, x -> x.account(13)).does(1, x -> x.letter('a'))
            .asks(5, x -> x.account(13)).does(9, x -> x.shout(0)).asks(6, x -> x.account(13))
            .does(0, x -> x.fill(0)).asks(7, x -> x.account(13));
        run.does(1, x -> x.append('w')).does(0, x -> x.save()).asks(7, x -> x.account(13))
            .refuses(2, 0, x -> x.fill(0)).fails(Run.ARGUMENT, x -> x.letter('A')).asks(7, x -> x.account(13))
            .does(6, x -> x.undo()).asks(1, x -> x.account(0)).refuses(3, 0, x -> x.dig(0, 0))
            .asks(6, x -> x.account(13));
    }

    private static void latestChanges() {
        Run run = terms("The latest 8 can be undone, the latest one first.");
        for (int i = 1; i <= 8; i++) {
            int depth = i;
            run.does(depth - 1, x -> x.dig(depth, 0)).asks(depth, x -> x.account(13));
        }
        run.does(7, x -> x.fill(0)).asks(8, x -> x.account(13)).does(7, x -> x.dig(30, 0))
            .asks(8, x -> x.account(13)).does(7, x -> x.undo()).asks(7, x -> x.account(0))
            .asks(2, x -> x.wellOf(0, 0)).does(6, x -> x.undo()).asks(8, x -> x.account(0))
            .asks(1, x -> x.wellOf(0, 0));
        for (int i = 5; i >= 0; i--) {
            int left = i;
            run.does(left, x -> x.undo()).asks(left + 2, x -> x.account(0));
        }
        run.fails(Run.STATE, x -> x.undo()).asks(2, x -> x.account(0)).does(2, x -> x.dig(5, 0))
            .does(0, x -> x.undo()).fails(Run.STATE, x -> x.undo());

        run = terms("The latest 8 can be undone");
        for (int i = 0; i < 20; i++) {
            boolean isDug = i % 2 == 0;
            run.does(0, x -> isDug ? x.dig(9, 0) : x.fill(0));
        }
        run.asks(8, x -> x.account(13));
        for (int i = 7; i >= 0; i--) {
            int left = i;
            run.does(left, x -> x.undo()).asks((left + 20) % 2, x -> x.account(0));
        }
        run.fails(Run.STATE, x -> x.undo());
    }

    private static void whatStays() {
        terms("The word, the input, the fault position, the reason with what is behind it, the line of text and what was"
            + " saved stay as they are when a change is undone.")
            .does(0, x -> x.dig(5, 0)).faults("dig x", 4).does(1, x -> x.dig(6, 0)).does(2, x -> x.save())
            .refusesText("wake;fill 8", 1, 2, 8).faults("fill ", 5).says("ab").feeds("wak")
            .tells("6s", x -> x.tellWell(1)).does(1, x -> x.undo()).asks(2, x -> x.account(4))
            .asks(3, x -> x.account(12)).asks(5, x -> x.faultPosition()).asks(10, x -> x.reason(0, false))
            .asks(1, x -> x.reason(0, true)).asks(2, x -> x.reason(1, false)).asks(8, x -> x.reason(1, true))
            .asks('6', x -> x.character(0)).asks('s', x -> x.character(1)).does(0, x -> x.undo())
            .asks(2, x -> x.account(4)).asks(3, x -> x.account(12)).asks(5, x -> x.faultPosition())
            .asks(10, x -> x.reason(0, false)).asks(8, x -> x.reason(1, true)).asks('6', x -> x.character(0))
            .tells("ab", x -> x.tellWord()).does(2, x -> x.restore()).asks(6, x -> x.wellOf(1, 0))
            .does(4, x -> x.append('e')).does(1, x -> x.run());
    }

    private static void wordIsEmpty() {
        terms("Details. The word is empty at first, and empty again once it was shouted; if it is undone that it was, it"
            + " stays empty.")
            .asks(0, x -> x.account(4)).tells("", x -> x.tellWord()).does(0, x -> x.dig(5, 0)).says("abc")
            .asks(3, x -> x.account(4)).refuses(2, 1, x -> x.shout(1)).asks(3, x -> x.account(4))
            .does(9, x -> x.shout(0)).asks(0, x -> x.account(4)).asks(0, x -> x.vowels())
            .tells("", x -> x.tellWord()).does(1, x -> x.undo()).asks(0, x -> x.account(4))
            .tells("", x -> x.tellWord()).does(1, x -> x.letter('z')).tells("z", x -> x.tellWord());
    }

    private static void textsHaveTheirWords() {
        terms("A text shouts its own words, and leaves the word as it is.")
            .says("own").runs("dig 5 s;shout 0 abcd;shout 0 ef", 3).tells("own", x -> x.tellWord())
            .asks(2, x -> x.bookOf(0, 1)).asks(4, x -> x.bookOf(1, 1)).tells("ef", x -> x.tellEcho())
            .refusesText("shout 0 ab;shout 1 ab", 1, 2, 1).tells("own", x -> x.tellWord())
            .does(9, x -> x.shout(0)).tells("own", x -> x.tellEcho()).runs("shout 0 abcdefgh;shout 0 z", 2)
            .tells("z", x -> x.tellEcho()).asks(0, x -> x.account(4));
    }

    private static void frogsAnswerOnce() {
        terms("A frog that is past on the way down and answers does not answer on the way up.")
            .runs("dig 5 s;frog 0 5 x;dig 5 s;frog 1 1 y;frog 1 1 z", 5).echoes(0, "a", "ax", 13, 8)
            .echoes(1, "a", "ayz", 16, 7).asks(3, x -> x.account(8));
    }

    private static void whatWouldBe() {
        terms("What would be is told with frogs as they are now, who stay so.")
            .runs("dig 5 s;frog 0 1 x;frog 0 2 y;dig 5 s", 4).says("a")
            .asks(3, x -> x.echoLength(0)).asks('y', x -> x.echoLetter(0, 2)).asks(0, x -> x.losses(0))
            .asks(7, x -> x.wouldGrade(0)).asks(1, x -> x.bestWell()).asks(false, x -> x.isWhole(0))
            .asks(16, x -> x.time(0)).asks(16, x -> x.timeAgain(0)).asks(true, x -> x.isLater(0, 1))
            .asks(0, x -> x.ranked(1, 0)).asks(true, x -> x.isTold()).asks(2, x -> x.wellOf(0, 4))
            .asks(0, x -> x.account(2)).does(7, x -> x.shout(0)).says("a")
            .asks(1, x -> x.echoLength(0)).fails(Run.ELEMENT, x -> x.echoLetter(0, 1)).asks(9, x -> x.wouldGrade(0))
            .asks(0, x -> x.bestWell()).asks(true, x -> x.isWhole(0)).asks(10, x -> x.time(0))
            .asks(10, x -> x.timeAgain(0)).asks(false, x -> x.isLater(0, 1)).asks(0, x -> x.wellOf(0, 4));
    }

    private static void depths() {
        terms("A depth that is not from 1 to 30 is out of range, and one that is, but deeper than the well, is refused for"
            + " the reason 5.")
            .does(0, x -> x.dig(29, 0)).refuses(3, 0, x -> x.coin(0, 0, 1)).refuses(3, 31, x -> x.coin(0, 31, 1))
            .refuses(5, 29, x -> x.coin(0, 30, 1)).does(0, x -> x.coin(0, 29, 1)).does(1, x -> x.coin(0, 1, 1))
            .refuses(3, 0, x -> x.frog(0, 0, 'a')).refuses(3, 31, x -> x.frog(0, 31, 'a'))
            .refuses(5, 29, x -> x.frog(0, 30, 'a')).refuses(3, 0, x -> x.moss(0, 0, 1))
            .refuses(3, 31, x -> x.moss(0, 31, 1)).refuses(5, 29, x -> x.moss(0, 30, 1)).does(1, x -> x.dig(1, 0))
            .refuses(5, 1, x -> x.moss(1, 2, 1)).refuses(5, 1, x -> x.moss(1, 30, 1))
            .refuses(3, 31, x -> x.moss(1, 31, 1)).does(0, x -> x.moss(1, 1, 1));
    }

    private static void metresOnce() {
        terms("Each metre of depth takes its 2 units of time once, for the way down and up together.")
            .does(0, x -> x.dig(1, 0)).echoes(0, "a", "a", 2, 9).does(30, x -> x.deepen(0, 29))
            .echoes(0, "a", "a", 60, 6);
    }

    private static void latestEcho() {
        Run run = terms("The latest echo is the first one in the book, and goes back with it.");
        run.tells("", x -> x.tellEcho()).runs("dig 5 w;dig 5 m", 2);
        for (int i = 1; i <= 7; i++) {
            run
                .echoes(0, "bcdfghj".substring(0, i), new StringBuilder("bcdfghj".substring(0, i)).reverse().toString(),
                10, 9);
        }
        for (int i = 6; i >= 1; i--) {
            int letters = i;
            run.does(letters + 1, x -> x.undo()).asks(letters, x -> x.bookOf(0, 1))
                .tells(new StringBuilder("bcdfghj".substring(0, letters)).reverse().toString(), x -> x.tellEcho());
        }
        run.does(1, x -> x.undo()).fails(Run.ELEMENT, x -> x.bookOf(0, 0)).tells("", x -> x.tellEcho())
            .echoes(1, "ae", "", 10, 7).does(1, x -> x.fill(1)).asks(1, x -> x.bookOf(0, 0))
            .tells("", x -> x.tellEcho());
    }

    // Every call that can throw, in a state in which there is something of everything.
    private static void unchanged() {
        String sentence = "Exceptions. A method that throws an exception leaves the state unchanged, unless it is said"
            + " otherwise.";
        terms(sentence).busy().refuses(3, 31, x -> x.dig(31, 0)).refuses(2, 4, x -> x.deepen(4, 1))
            .refuses(4, 21, x -> x.deepen(0, 22)).refuses(2, 4, x -> x.fill(4)).refuses(5, 9, x -> x.coin(0, 10, 1))
            .refuses(3, 65, x -> x.frog(0, 1, 'A')).refuses(3, 10, x -> x.moss(0, 1, 10))
            .refuses(2, 2, x -> x.take(0, 2)).refuses(3, 31, x -> x.rope(31)).refuses(6, 0, x -> x.bind(0, 0))
            .refuses(8, 1, x -> x.fish(0)).refuses(2, 4, x -> x.shout(4));
        terms(sentence).busy().fails(Run.ARGUMENT, x -> x.letter('A')).fails(Run.INDEX, x -> x.wellOf(4, 0))
            .fails(Run.INDEX, x -> x.thingOf(0, 2, 0)).fails(Run.INDEX, x -> x.ropeOf(2, 0))
            .fails(Run.ELEMENT, x -> x.bookOf(4, 0)).fails(Run.INDEX, x -> x.time(4))
            .fails(Run.INDEX, x -> x.timeAgain(4)).fails(Run.INDEX, x -> x.isLater(0, 4))
            .fails(Run.INDEX, x -> x.echoLength(4)).fails(Run.ELEMENT, x -> x.echoLetter(2, 9))
            .fails(Run.INDEX, x -> x.losses(4)).fails(Run.INDEX, x -> x.wouldGrade(4))
            .fails(Run.INDEX, x -> x.isWhole(4)).fails(Run.ELEMENT, x -> x.reach(0))
            .fails(Run.ARGUMENT, x -> x.ranked(4, 0)).fails(Run.ARGUMENT, x -> x.append((char) 127))
            .fails(Run.ARGUMENT, x -> x.reason(2, true)).fails(Run.INDEX, x -> x.tellWell(4))
            .fails(Run.INDEX, x -> x.character(12)).fails(Run.ARGUMENT, x -> x.account(14));
        terms(sentence).fails(Run.STATE, x -> x.undo()).fails(Run.STATE, x -> x.restore())
            .fails(Run.ARITHMETIC, x -> x.meanGrade()).fails(Run.ARITHMETIC, x -> x.lostShare())
            .fails(Run.ELEMENT, x -> x.bestWell()).says("abcdefgh").fails(Run.STATE, x -> x.letter('a'))
            .refuses(2, 0, x -> x.shout(0)).faults("dig", 3).refusesText("dig 5 s;fill 0;fill 0", 2, 2, 0);
    }

    private static void firstException() {
        terms("If several conditions of a method are fulfilled, the one that is listed first determines the exception.")
            .fails(Run.INDEX, x -> x.echoLength(0)).fails(Run.INDEX, x -> x.echoLetter(0, 9))
            .fails(Run.INDEX, x -> x.losses(0)).fails(Run.INDEX, x -> x.wouldGrade(0))
            .fails(Run.INDEX, x -> x.isWhole(0)).fails(Run.INDEX, x -> x.wellOf(0, 8))
            .fails(Run.INDEX, x -> x.thingOf(0, 0, 5)).fails(Run.INDEX, x -> x.ropeOf(0, 3))
            .fails(Run.ELEMENT, x -> x.bookOf(0, 5)).fails(Run.ARGUMENT, x -> x.ranked(4, 0))
            .fails(Run.ARGUMENT, x -> x.reason(2, false)).does(0, x -> x.dig(5, 0))
            .fails(Run.INDEX, x -> x.thingOf(0, 0, 5)).says("abcdefgh").fails(Run.ARGUMENT, x -> x.letter('A'))
            .feeds("123456789012345678901234567890123456789012345678901234567890")
            .fails(Run.ARGUMENT, x -> x.append((char) 31)).fails(Run.STATE, x -> x.append(' '));
    }

    private static void reasonIsKept() {
        terms("If something is refused, its reason is kept, in place of the one before.")
            .fails(Run.ELEMENT, x -> x.reason(0, false)).refuses(3, 31, x -> x.dig(31, 0))
            .refuses(2, 0, x -> x.fill(0)).refusesText("wake;fill 0", 1, 2, 0).refuses(3, -1, x -> x.dig(1, -1))
            .does(0, x -> x.dig(1, 0)).asks(3, x -> x.reason(0, false)).asks(-1, x -> x.reason(0, true))
            .fails(Run.ARGUMENT, x -> x.letter('A')).faults("wake;", 5).asks(3, x -> x.reason(0, false))
            .does(0, x -> x.undo()).asks(3, x -> x.reason(0, false)).refusesText("fill 0", 0, 2, 0)
            .refusesText("wake;dig 0 s", 1, 3, 0).runs("dig 3 s", 1).asks(10, x -> x.reason(0, false))
            .asks(0, x -> x.reason(1, true));
    }
}
