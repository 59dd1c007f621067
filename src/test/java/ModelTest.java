import java.lang.reflect.InvocationTargetException;
import java.lang.reflect.Method;
import java.util.Random;

/** Long runs of mixed calls, wrong ones among them, each answered by EchoWells and by the Model alike. */
public final class ModelTest {
    private static final int RUNS = 1500;
    /** What an object answers to later calls is free. */
    private static final int CALLS = 512;
    private static final int[] WILD = {-1, -2, 31, 100, Integer.MIN_VALUE, Integer.MAX_VALUE, 1 << 30, -(1 << 30)};
    /** A method behind how often it is chosen, and what its arguments are. */
    private static final String[] FACE = {
        "6 dig depth bottom", "2 deepen well metres", "1 fill well", "7 coin well depth value",
        "7 frog well depth sign", "7 moss well depth value", "3 take well thing", "2 wake", "2 rope depth",
        "3 bind rope well", "4 fish rope", "25 letter sign", "8 shout well", "3 wellOf well what",
        "3 thingOf well thing what", "2 ropeOf rope what", "2 bookOf thing what", "2 time well",
        "1 timeAgain well", "1 isLater well well", "2 echoLength well", "4 echoLetter well letters",
        "2 losses well", "2 wouldGrade well", "2 bestWell", "1 isWhole well", "1 vowels", "2 reach rope",
        "2 ranked what well", "1 isTold", "1 append sign", "1 run", "1 faultPosition", "3 reason flag isDetail",
        "1 tellWord", "1 tellEcho", "2 tellWell well", "2 character letters", "3 account account",
        "1 meanGrade", "1 lostShare", "3 undo", "1 save", "1 restore"};

    private final Random random;
    private final EchoWells tested = new EchoWells();
    private final Model model = new Model();
    private final StringBuilder calls = new StringBuilder();
    private int done = 0;

    private ModelTest(long seed) {
        random = new Random(seed);
    }

    public static void main(String[] args) throws Exception {
        for (int seed = 0; seed < RUNS && Check.wrong() == 0; seed++) {
            new ModelTest(seed).runOfCalls();
        }
        Check.finish();
    }

    private void runOfCalls() throws Exception {
        int total = 0;
        for (String one : FACE) {
            total += Integer.parseInt(one.split(" ")[0]);
        }
        while (done < CALLS && Check.wrong() == 0) {
            if (random.nextInt(25) == 0) {
                text();
                continue;
            }
            int chosen = random.nextInt(total);
            for (String one : FACE) {
                chosen -= Integer.parseInt(one.split(" ")[0]);
                if (chosen < 0) {
                    anyCall(one.split(" "));
                    break;
                }
            }
        }
        if (Check.wrong() != 0) {
            System.out.println("the calls were:" + calls);
        }
    }

    private void anyCall(String[] words) throws Exception {
        Object[] arguments = new Object[words.length - 2];
        for (int i = 0; i < arguments.length; i++) {
            arguments[i] = argument(words[i + 2]);
        }
        call(words[1], arguments);
    }

    private void text() throws Exception {
        StringBuilder text = new StringBuilder();
        int orders = 1 + random.nextInt(5);
        for (int i = 0; i < orders; i++) {
            text.append(i == 0 ? "" : ";").append(order());
        }
        if (random.nextInt(4) == 0) {
            spoil(text);
        }
        for (int i = 0; i < text.length(); i++) {
            call("append", text.charAt(i));
        }
        call("run");
        call("faultPosition");
    }

    private void spoil(StringBuilder text) {
        String signs = " ;0129swmdfortak~A";
        int place = random.nextInt(text.length() + 1);
        char sign = signs.charAt(random.nextInt(signs.length()));
        int way = random.nextInt(4);
        if (way == 0 || place == text.length()) {
            text.insert(place, sign);
        } else if (way == 1) {
            text.setCharAt(place, sign);
        } else if (way == 2) {
            text.deleteCharAt(place);
        } else {
            text.setLength(place);
        }
    }

    private String order() {
        String near = " " + random.nextInt(4);
        String depth = " " + random.nextInt(random.nextInt(6) == 0 ? 100 : 12);
        String digit = " " + random.nextInt(10);
        switch (random.nextInt(12)) {
            case 0:
                return "dig" + depth + " " + "swm".charAt(random.nextInt(3));
            case 1:
                return "deepen" + near + depth;
            case 2:
                return random.nextInt(3) == 0 ? "fill" + near : "wake";
            case 3:
                return "coin" + near + depth + digit;
            case 4:
                return "frog" + near + depth + " " + (char) ('a' + random.nextInt(26));
            case 5:
                return "moss" + near + depth + digit;
            case 6:
                return "take" + near + near;
            case 7:
                return "wake";
            case 8:
                return random.nextInt(3) == 0 ? "rope" + depth : "wake";
            case 9:
                return "bind " + random.nextInt(3) + near;
            case 10:
                return "fish " + random.nextInt(3);
            default:
                StringBuilder word = new StringBuilder("shout" + near + " ");
                int letters = 1 + random.nextInt(9);
                for (int i = 0; i < letters; i++) {
                    word.append("aeioubcz".charAt(random.nextInt(8)));
                }
                return word.toString();
        }
    }

    private Object argument(String kind) {
        boolean isWild = random.nextInt(20) == 0;
        int wild = WILD[random.nextInt(WILD.length)];
        int wells = Math.max(1, model.account(0));
        switch (kind) {
            case "sign":
                return isWild ? (char) (random.nextInt(130) + (random.nextBoolean() ? 0 : 65400))
                    : random.nextBoolean() ? "aeiou".charAt(random.nextInt(5)) : (char) ('a' + random.nextInt(26));
            case "isDetail":
                return random.nextBoolean();
            case "well":
                return isWild ? wild : random.nextInt(12) == 0 ? random.nextInt(9) : random.nextInt(wells);
            case "depth":
                return isWild ? wild : random.nextInt(4) == 0 ? random.nextInt(32) : 1 + random.nextInt(12);
            case "bottom":
            case "rope":
                return isWild ? wild : random.nextInt(10) == 0 ? random.nextInt(5) : random.nextInt(3);
            case "metres":
                return isWild ? wild : random.nextInt(4) == 0 ? random.nextInt(31) : 1 + random.nextInt(5);
            case "value":
                return isWild ? wild : random.nextInt(11);
            case "thing":
                return isWild ? wild : random.nextInt(7);
            case "what":
                return isWild ? wild : random.nextInt(9);
            case "flag":
                return isWild ? wild : random.nextInt(3);
            case "letters":
                return isWild ? wild : random.nextInt(16);
            default:
                return isWild ? wild : random.nextInt(15);
        }
    }

    private void call(String name, Object... arguments) throws Exception {
        Class<?>[] types = new Class<?>[arguments.length];
        for (int i = 0; i < types.length; i++) {
            types[i] = arguments[i] instanceof Integer ? int.class
                : arguments[i] instanceof Character ? char.class : boolean.class;
        }
        if (done == CALLS) {
            return;
        }
        calls.append(' ').append(name).append(java.util.Arrays.toString(arguments));
        done++;
        Object due = answer(Model.class.getMethod(name, types), model, arguments);
        Check.is(name, answer(EchoWells.class.getMethod(name, types), tested, arguments), due);
    }

    private static Object answer(Method method, Object object, Object[] arguments) throws Exception {
        try {
            return method.invoke(object, arguments);
        } catch (InvocationTargetException thrown) {
            return "throws." + thrown.getCause().getClass().getName();
        }
    }
}
