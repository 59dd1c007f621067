import java.io.IOException;
import java.nio.file.Files;
import java.nio.file.Path;
import java.util.regex.Matcher;
import java.util.regex.Pattern;

/** The examples of README.md: they stand here line by line, and what their comments tell is so. */
public final class ReadmeTest {
    private ReadmeTest() {
    }

    public static void main(String[] args) throws IOException {
        String own = plain(Files.readString(Path.of("src/test/java/ReadmeTest.java")));
        Matcher example = Pattern.compile("(?s)```java\n(.*?)```").matcher(Files.readString(Path.of("README.md")));
        int examples = 0;
        while (example.find()) {
            Check.is("an example of README.md stands in this test", own.contains(plain(example.group(1))), true);
            examples++;
        }
        Check.is("examples of README.md", examples, 4);
        shouting();
        refusing();
        texts();
        goingBack();
        Check.finish();
    }

    private static String plain(String text) {
        return text.replaceAll("(?m)^ +| *//.*$", "").replaceAll("\n+", "\n");
    }

    private static void shouting() {
        EchoWells wells = new EchoWells();
        int well = wells.dig(12, 1);
        wells.coin(well, 4, 3);
        wells.frog(well, 5, 'k');
        for (char letter : "hello".toCharArray()) {
            wells.letter(letter);
        }
        int would = wells.wouldGrade(well);
        int grade = wells.shout(well);
        int length = wells.tellEcho();
        char first = wells.character(0);

        Check.is("would", would, 7);
        Check.is("grade", grade, 7);
        Check.is("the echo", first + told(wells, length).substring(1), "klle");
        Check.is("its time", wells.bookOf(0, 3), 27);
        Check.is("the word is empty", wells.account(4), 0);
        Check.is("the frog sleeps", wells.account(2), 1);
    }

    private static void refusing() {
        EchoWells wells = new EchoWells();
        wells.dig(12, 1);
        try {
            wells.coin(0, 13, 5);
        } catch (UnsupportedOperationException refused) {
            int reason = wells.reason(0, false);
            int detail = wells.reason(0, true);
        }

        Check.is("reason", wells.reason(0, false), 5);
        Check.is("detail", wells.reason(0, true), 12);
        Check.is("the coin was refused", wells.account(1), 0);
    }

    private static void texts() {
        EchoWells wells = new EchoWells();
        for (char sign : "dig 9 m;frog 0 3 k;shout 0 ma".toCharArray()) {
            wells.append(sign);
        }
        int orders = wells.run();
        int length = wells.tellWell(0);

        Check.is("orders", orders, 3);
        Check.is("the well", told(wells, length), "9m fk@3");
    }

    private static void goingBack() {
        EchoWells wells = new EchoWells();
        wells.dig(30, 0);
        wells.save();
        wells.deepen(wells.dig(8, 2), 2);
        int left = wells.undo();
        int depth = wells.wellOf(1, 0);
        int kept = wells.restore();

        Check.is("left", left, 2);
        Check.is("depth", depth, 8);
        Check.is("kept", kept, 1);
        Check.is("nothing to undo", wells.account(13), 0);
    }

    private static String told(EchoWells wells, int length) {
        StringBuilder line = new StringBuilder();
        for (int i = 0; i < length; i++) {
            line.append(wells.character(i));
        }
        return line.toString();
    }
}
