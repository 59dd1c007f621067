/** The sentences of the document's 'Terms' on texts of orders. */
final class TextTerms {
    /** One of each order, in a form of which all characters but the last few are needed. */
    private static final String[] ORDERS = {
        "dig 12 s", "deepen 0 12", "fill 0", "coin 0 12 3", "frog 0 12 k", "moss 0 12 3", "take 0 0", "wake", "rope 12",
        "bind 0 0", "fish 0", "shout 0 abcdefgh"};

    private TextTerms() {
    }

    static void all() {
        texts();
        wellOrders();
        thingOrders();
        ropeOrders();
        shoutOrders();
        bottoms();
        numbers();
        bounds();
        orders();
        faults();
        letterByLetter();
        everyCharacter();
    }

    private static Run terms(String sentence) {
        return new Run("Terms", sentence);
    }

    private static void texts() {
        terms("Texts. The form of a text of orders is text = order { \";\" order }")
            .faults("", 0).runs("wake", 1).runs("wake;wake", 2)
            .runs("wake;wake;wake;wake;wake;wake;wake;wake;wake", 9)
            .runs("wake;wake;wake;wake;wake;wake;wake;wake;wake;wake;wake;wake", 12).faults(";", 0)
            .faults("wake;", 5).faults(";wake", 0).faults("wake;;wake", 5).faults("wake,wake", 4)
            .faults("wake wake", 4).faults("wake; wake", 5).faults("wakewake", 4).faults("wake ;wake", 4)
            .faults("wake;wake;wake;wake;wake;wake;wake;wake;wake;wake;wake;wake;", 60);
    }

    private static void wellOrders() {
        terms("order = \"dig \" number \" \" bottom").runs("dig 5 s", 1).runs("dig 05 w", 1).runs("dig 30 m", 1)
            .refusesText("dig 0 s", 0, 3, 0).refusesText("dig 31 s", 0, 3, 31).refusesText("dig 99 s", 0, 3, 99)
            .faults("dig", 3).faults("dig ", 4).faults("dig s", 4).faults("dig 5", 5).faults("dig 5 ", 6)
            .faults("dig 5s", 5).faults("dig 123 s", 6).faults("dig 5  s", 6).faults("dig 5 x", 6)
            .faults("dig 5 ss", 7).faults("dig -1 s", 4).tells("5s", x -> x.tellWell(0))
            .tells("5w", x -> x.tellWell(1)).tells("30m", x -> x.tellWell(2));
        terms("| \"deepen \" digit \" \" number").runs("dig 1 s;deepen 0 9", 2).runs("deepen 0 19", 1)
            .runs("deepen 0 01", 1).refusesText("deepen 0 1", 0, 4, 0).refusesText("deepen 0 30", 0, 3, 30)
            .refusesText("deepen 0 00", 0, 3, 0).refusesText("deepen 1 0", 0, 2, 1)
            .refusesText("deepen 9 9", 0, 2, 9).faults("deepen", 6).faults("deepen ", 7).faults("deepen 0", 8)
            .faults("deepen 0 ", 9).faults("deepen 00 1", 8).faults("deepen 0 123", 11).faults("deepen 0 x", 9)
            .tells("30s", x -> x.tellWell(0));
        terms("| \"fill \" digit").runs("dig 1 s;dig 2 s;fill 0", 3).refusesText("fill 1", 0, 2, 1)
            .refusesText("fill 0;fill 0", 1, 2, 0).refusesText("fill 9", 0, 2, 9).faults("fill", 4)
            .faults("fill ", 5).faults("fill x", 5).faults("fill 00", 6).faults("fill 0 ", 6)
            .tells("2s", x -> x.tellWell(0));
    }

    private static void thingOrders() {
        terms("| \"coin \" digit \" \" number \" \" digit").runs("dig 12 s;coin 0 1 9;coin 0 12 1;coin 0 09 5", 4)
            .refusesText("coin 1 1 1", 0, 2, 1).refusesText("coin 0 0 1", 0, 3, 0)
            .refusesText("coin 0 1 0", 0, 3, 0).refusesText("coin 0 13 1", 0, 5, 12)
            .refusesText("coin 0 31 1", 0, 3, 31).faults("coin", 4).faults("coin ", 5).faults("coin 0", 6)
            .faults("coin 00 1 1", 6).faults("coin 0 ", 7).faults("coin 0 1", 8).faults("coin 0 123 1", 9)
            .faults("coin 0 1 ", 9).faults("coin 0 1 x", 9).faults("coin 0 1 11", 10)
            .tells("12s c9@1 c1@12 c5@9", x -> x.tellWell(0));
        terms("| \"frog \" digit \" \" number \" \" letter").runs("dig 12 s;frog 0 1 a;frog 0 12 z", 3)
            .refusesText("frog 1 1 a", 0, 2, 1).refusesText("frog 0 0 a", 0, 3, 0)
            .refusesText("frog 0 13 a", 0, 5, 12).faults("frog", 4).faults("frog ", 5).faults("frog 0 1", 8)
            .faults("frog 0 1 ", 9).faults("frog 0 1 A", 9).faults("frog 0 1 1", 9).faults("frog 0 1 `", 9)
            .faults("frog 0 1 {", 9).faults("frog 0 1 ab", 10).tells("12s fA@1 fZ@12", x -> x.tellWell(0));
        terms("| \"moss \" digit \" \" number \" \" digit").runs("dig 12 s;moss 0 1 9;moss 0 12 1", 3)
            .refusesText("moss 1 1 1", 0, 2, 1).refusesText("moss 0 0 1", 0, 3, 0)
            .refusesText("moss 0 1 0", 0, 3, 0).refusesText("moss 0 13 1", 0, 5, 12).faults("moss", 4)
            .faults("moss ", 5).faults("moss 0 1", 8).faults("moss 0 1 ", 9).faults("moss 0 1 a", 9)
            .faults("moss 0 1 11", 10).tells("12s m9@1 m1@12", x -> x.tellWell(0));
        terms("| \"take \" digit \" \" digit").runs("dig 5 s;coin 0 1 1;coin 0 1 2;take 0 0", 4)
            .refusesText("take 0 1", 0, 2, 1).refusesText("take 1 9", 0, 2, 1).refusesText("take 0 9", 0, 2, 9)
            .faults("take", 4).faults("take ", 5).faults("take 0", 6).faults("take 0 ", 7).faults("take 00", 6)
            .faults("take 0 00", 8).tells("5s c2@1", x -> x.tellWell(0));
        terms("| \"wake\"").runs("wake", 1).runs("dig 1 s;frog 0 1 a;shout 0 b;frog 0 1 c;wake", 5)
            .asks(2, x -> x.wellOf(0, 4)).asks(1, x -> x.account(11)).faults("w", 1).faults("wa", 2)
            .faults("wak", 3).faults("waken", 4).faults("wake ", 4).faults("wake 0", 4);
    }

    private static void ropeOrders() {
        terms("| \"rope \" number").runs("rope 1;rope 30", 2).refusesText("rope 0", 0, 3, 0)
            .refusesText("rope 31", 0, 3, 31).runs("rope 09", 1).refusesText("rope 5", 0, 1, 3).faults("rope", 4)
            .faults("rope ", 5).faults("rope x", 5).faults("rope 123", 7).faults("rope 1 ", 6)
            .asks(9, x -> x.ropeOf(2, 0)).asks(30, x -> x.ropeOf(1, 0));
        terms("| \"bind \" digit \" \" digit").runs("dig 1 s;dig 2 s;rope 1;rope 1;bind 0 1;bind 1 0", 6)
            .refusesText("bind 2 0", 0, 2, 2).refusesText("bind 0 2", 0, 2, 2).refusesText("bind 0 1", 0, 6, 1)
            .faults("bind", 4).faults("bind ", 5).faults("bind 0", 6).faults("bind 0 ", 7).faults("bind 00 1", 6)
            .faults("bind 0 11", 8).asks(1, x -> x.ropeOf(0, 1)).asks(0, x -> x.ropeOf(1, 1));
        terms("| \"fish \" digit").runs("dig 1 s;rope 1;bind 0 0;coin 0 1 7;rope 2;fish 0", 6)
            .refusesText("fish 0", 0, 8, 0).refusesText("fish 1", 0, 7, 2).refusesText("fish 2", 0, 2, 2)
            .faults("fish", 4).faults("fish ", 5).faults("fish x", 5).faults("fish 00", 6)
            .asks(7, x -> x.account(10));
    }

    private static void shoutOrders() {
        terms("| \"shout \" digit \" \" letter { letter }").runs("dig 1 w;shout 0 a;shout 0 bc;shout 0 abcdefgh", 4)
            .tells("hgfedcba", x -> x.tellEcho()).refusesText("shout 1 a", 0, 2, 1).faults("shout", 5)
            .faults("shout ", 6).faults("shout 0", 7).faults("shout 0 ", 8).faults("shout 00 a", 7)
            .faults("shout 0 A", 8).faults("shout 0 1", 8).faults("shout 0 a b", 9).faults("shout 0 aB", 9)
            .faults("shout 0 ;wake", 8).faults("shout 0 abcdefghi", 16).faults("shout 0 abcdefghi;wake", 16)
            .asks(3, x -> x.account(5)).asks(11, x -> x.account(6));
    }

    private static void bottoms() {
        terms("bottom = \"s\" | \"w\" | \"m\"").runs("dig 5 s;dig 5 w;dig 5 m", 3).asks(0, x -> x.wellOf(0, 1))
            .asks(1, x -> x.wellOf(1, 1)).asks(2, x -> x.wellOf(2, 1)).faults("dig 5 r", 6).faults("dig 5 t", 6)
            .faults("dig 5 v", 6).faults("dig 5 x", 6).faults("dig 5 l", 6).faults("dig 5 n", 6)
            .faults("dig 5 S", 6).faults("dig 5 0", 6);
    }

    private static void numbers() {
        terms("number = digit [ digit ]").runs("dig 1 s;dig 9 s;dig 10 s;dig 19 s;dig 09 s;dig 01 s", 6)
            .asks(1, x -> x.wellOf(0, 0)).asks(9, x -> x.wellOf(1, 0)).asks(10, x -> x.wellOf(2, 0))
            .asks(19, x -> x.wellOf(3, 0)).asks(9, x -> x.wellOf(4, 0)).asks(1, x -> x.wellOf(5, 0))
            .faults("rope", 4).faults("rope ", 5).faults("rope a", 5).faults("rope 1a", 6).faults("rope 010", 7)
            .refusesText("rope 99", 0, 3, 99);
    }

    private static void bounds() {
        String sentence = "where braces mean zero or more repetitions, brackets that something can be left out, a bar one"
            + " of several, a digit is one from 0 to 9, a letter one from a to z, and a word of \"shout\" has 8 letters at"
            + " most.";
        Run run = terms(sentence);
        for (int digit = 0; digit <= 9; digit++) {
            run.refusesText("fill " + digit, 0, 2, digit).refusesText("rope 4" + digit, 0, 3, 40 + digit);
        }
        run = terms(sentence).does(0, x -> x.dig(9, 0));
        run.faults("fill /", 5).faults("fill :", 5).faults("rope /", 5).faults("rope :", 5).faults("rope 3/", 6)
            .faults("rope 3:", 6).faults("frog 0 1 `", 9).faults("frog 0 1 {", 9).faults("shout 0 `", 8)
            .faults("shout 0 {", 8).faults("shout 0 a`", 9).faults("shout 0 z{", 9)
            .runs("frog 0 1 a;frog 0 1 z;shout 0 a;shout 0 z;shout 0 az", 5).runs("shout 0 abcdefg", 1)
            .runs("shout 0 zyxwvuts", 1).faults("shout 0 zyxwvutsr", 16).asks(8, x -> x.bookOf(0, 1))
            .asks(7, x -> x.bookOf(1, 1));
    }

    private static void orders() {
        terms("The orders are: dig, a well is dug, with its depth and its bottom, s for stone, w for water and m for mud;")
            .runs("dig 7 w", 1).asks(7, x -> x.wellOf(0, 0)).asks(1, x -> x.wellOf(0, 1)).runs("dig 8 s;dig 9 m", 2)
            .asks(0, x -> x.wellOf(1, 1)).asks(2, x -> x.wellOf(2, 1));
        terms("deepen, a well is made so much deeper; fill, it goes;").runs("dig 7 w;dig 8 w;deepen 1 5", 3)
            .asks(13, x -> x.wellOf(1, 0)).asks(7, x -> x.wellOf(0, 0)).runs("fill 0", 1)
            .asks(13, x -> x.wellOf(0, 0)).asks(1, x -> x.account(0));
        terms("coin, frog and moss, such a thing comes into a well at a depth; take, a thing goes;")
            .runs("dig 9 w;coin 0 8 1;frog 0 7 b;moss 0 6 3", 4).tells("9w c1@8 fB@7 m3@6", x -> x.tellWell(0))
            .runs("take 0 1", 1).tells("9w c1@8 m3@6", x -> x.tellWell(0));
        terms("wake, all frogs are woken; rope, a rope comes, with its length; bind, a rope is bound to a well; fish, a rope"
            + " fishes; shout, the word is shouted into a well.")
            .runs("dig 9 s;frog 0 1 a;coin 0 9 6;rope 9;bind 0 0", 5).asks(9, x -> x.ropeOf(0, 0))
            .asks(0, x -> x.ropeOf(0, 1)).runs("shout 0 bcd", 1).tells("bc", x -> x.tellEcho())
            .asks(1, x -> x.account(2)).runs("wake", 1).asks(0, x -> x.account(2)).asks(1, x -> x.account(11))
            .runs("fish 0", 1).asks(6, x -> x.account(10)).asks(0, x -> x.wellOf(0, 3))
            .asks(1, x -> x.ropeOf(0, 2));
    }

    private static void faults() {
        terms("The fault position of a text is the index of the first character that cannot continue such a text, or its"
            + " length if it ends too early;")
            .faults("", 0).faults("x", 0).faults("d", 1).faults("dig 5 s;", 8).faults("dig 5 s;dig", 11)
            .faults("dig 5 s;dig 5 x;y", 14).faults("dig 5 s,dig 5 s", 7).faults("dig 5 s;x", 8)
            .faults("                                                            ", 0)
            .faults("wake;wake;wake;wake;wake;wake;wake;wake;wake;wake;wake;wak~", 58)
            .faults("wake;wake;wake;wake;wake;wake;wake;wake;wake;wake;wake;wa", 57)
            .faults("wake;wake;wake;wake;wake;wake;wake;wake;wake;wake;wake;wakee", 59);
    }

    private static void letterByLetter() {
        terms("words of orders are looked at letter by letter.")
            .faults("dog 5 s", 1).faults("dib 5 s", 2).faults("dig5 s", 3).faults("de", 2).faults("deep", 4)
            .faults("deepem", 5).faults("f", 1).faults("fi", 2).faults("fil", 3).faults("fis", 3).faults("fir", 2)
            .faults("fr", 2).faults("fro", 3).faults("fo", 1).faults("c", 1).faults("coil", 3).faults("m", 1)
            .faults("mos", 3).faults("moat", 2).faults("t", 1).faults("tale", 2).faults("r", 1).faults("robe", 2)
            .faults("b", 1).faults("bird", 2).faults("s", 1).faults("sh", 2).faults("shoot", 3).faults("shouT", 4)
            .faults("Wake", 0).faults("wAke", 1);
    }

    // Behind each beginning of an order, alone and behind another order, each character that the input can have.
    private static void everyCharacter() {
        for (String order : ORDERS) {
            for (int length = 0; length <= order.length(); length++) {
                for (char sign = ' '; sign <= '~'; sign++) {
                    readAsDue(order.substring(0, length) + sign);
                    readAsDue("wake;" + order.substring(0, length) + sign);
                }
            }
        }
    }

    private static void readAsDue(String text) {
        EchoWells x = new EchoWells();
        for (int i = 0; i < text.length(); i++) {
            x.append(text.charAt(i));
        }
        int due = Model.faultOf(text);
        boolean isFault = Check.answer(() -> x.run()).equals("throws." + Run.ARGUMENT.getName());
        Check.is("'" + text + "' has a fault", isFault, due >= 0);
        Check.is("'" + text + "': fault", x.faultPosition(), due);
    }
}
