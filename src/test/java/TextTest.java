import java.util.ArrayList;
import java.util.HashSet;
import java.util.List;
import java.util.Set;

/** The edges of the input text: each start of a text with each character behind it, and the buffer's length. */
public final class TextTest {
    private static final Checks CHECKS = new Checks();
    private static final List<String> PARTS = new ArrayList<>();
    private static final Set<String> WHOLE = new HashSet<>();
    private static final Set<String> STARTS = new HashSet<>();

    public static void main(String[] args) {
        listParts();
        CHECKS.same("parts", PARTS.size(), 6 * 9 + 2 * 99 + 2);
        eachCharacterBehindEachStart();
        eachPartAlone();
        twoParts();
        emptyBuffer();
        bufferOfSixty();
        errorsByPlace();
        oneAfterTheOther();
        playIsOneCall();
        CHECKS.end("TextTest");
    }

    private static void same(String what, long got, long due) {
        CHECKS.same(what, got, due);
    }

    private static void listParts() {
        for (int v = 0; v <= 5; v++) {
            PARTS.add("" + v);
            for (int often = 2; often <= 9; often++) {
                PARTS.add(v + "*" + often);
            }
        }
        for (int c = 0; c <= 1; c++) {
            PARTS.add("c" + c);
            for (int spring = 1; spring <= 99; spring++) {
                PARTS.add("w" + c + ":" + spring);
            }
        }
        for (String part : PARTS) {
            WHOLE.add(part);
            for (int k = 0; k <= part.length(); k++) {
                STARTS.add(part.substring(0, k));
            }
        }
    }

    /** Whether shots as a text begin with these characters, by the list of all parts. */
    private static boolean isStart(String text) {
        String[] parts = text.split(";", -1);
        for (int k = 0; k < parts.length - 1; k++) {
            if (!WHOLE.contains(parts[k])) {
                return false;
            }
        }
        return STARTS.contains(parts[parts.length - 1]);
    }

    private static boolean isWhole(String text) {
        for (String part : text.split(";", -1)) {
            if (!WHOLE.contains(part)) {
                return false;
            }
        }
        return true;
    }

    private static ShutterBench with(String text) {
        ShutterBench b = new ShutterBench();
        for (int k = 0; k < text.length(); k++) {
            same("length of " + text, b.append(text.charAt(k)), k + 1);
        }
        return b;
    }

    /** "a character is a syntax error if no shots as a text begin with the characters before it and this one". */
    private static void eachCharacterBehindEachStart() {
        String[] before = {"", "0;", "5*9;", "w1:99;", "c1;w0:1;"};
        for (String earlier : before) {
            for (String start : STARTS) {
                for (char code = 33; code <= 126; code++) {
                    character(earlier + start, code);
                }
            }
        }
    }

    private static void character(String start, char code) {
        String text = start + code;
        ShutterBench b = with(text);
        same("first error of " + text, b.firstError(), isStart(text) ? text.length() : start.length());
        String thrown = Checks.thrownBy(b::play);
        CHECKS.same("play of " + text, thrown, isWhole(text) ? "nothing" : "IllegalArgumentException");
        same("text behind play of " + text, b.clearBuffer(), isWhole(text) ? 0 : text.length());
        same("states behind play of " + text, b.count(4), isWhole(text) ? 1 : 0);
    }

    private static void eachPartAlone() {
        for (String part : PARTS) {
            ShutterBench b = new ShutterBench();
            b.shoot(5, 3);
            for (int k = 0; k < part.length(); k++) {
                b.append(part.charAt(k));
            }
            int value = part.length() < 2 ? 1 : part.charAt(1) - '0';
            if (part.charAt(0) == 'w') {
                same("shots of " + part, b.play(), 0);
                same("wound by " + part, b.curtain(value, 0), Integer.parseInt(part.substring(3)));
                same("not wound by " + part, b.curtain(1 - value, 0), 50);
                same("not cleaned by " + part, b.curtain(value, 1), 3);
            } else if (part.charAt(0) == 'c') {
                same("shots of " + part, b.play(), 0);
                same("cleaned by " + part, b.curtain(value, 1), 0);
                same("not cleaned by " + part, b.curtain(1 - value, 1), 3);
                same("not wound by " + part, b.curtain(value, 0), 50);
            } else {
                int speed = part.charAt(0) - '0';
                int often = part.length() == 1 ? 1 : part.charAt(2) - '0';
                same("shots of " + part, b.play(), often);
                same("shots with the speed of " + part, b.speed(speed, 8), often + (speed == 5 ? 3 : 0));
                same("all shots behind " + part, b.count(0), often + 3);
                same("shots since behind " + part, b.curtain(1, 1), often + 3);
            }
            same("cleared by " + part, b.clearBuffer(), 0);
            same("saved by " + part, b.count(4), 2);
        }
    }

    private static void twoParts() {
        for (String first : PARTS) {
            for (String second : PARTS) {
                String text = first + ";" + second;
                ShutterBench b = with(text);
                same("no error in " + text, b.firstError(), text.length());
                same("shots of " + text, b.play(), shotsOf(first) + shotsOf(second));
            }
        }
    }

    private static int shotsOf(String part) {
        if (part.charAt(0) > '5') {
            return 0;
        }
        return part.length() == 1 ? 1 : part.charAt(2) - '0';
    }

    private static void emptyBuffer() {
        ShutterBench b = new ShutterBench();
        same("first error of nothing", b.firstError(), 0);
        CHECKS.illegal("play of nothing", b, b::play);
        same("length of nothing", b.clearBuffer(), 0);
        same("saved by nothing", b.count(4), 0);
        b.append('1');
        b.clearBuffer();
        same("first error of a cleared one", b.firstError(), 0);
        CHECKS.illegal("play of a cleared one", b, b::play);
        b.append('1');
        b.play();
        same("first error behind play", b.firstError(), 0);
        CHECKS.illegal("play behind play", b, b::play);
    }

    private static String repeated(String unit, int length) {
        StringBuilder text = new StringBuilder();
        while (text.length() < length) {
            text.append(unit);
        }
        return text.substring(0, length);
    }

    /** "The buffer has at most 60 characters": 59, 60 and one more. */
    private static void bufferOfSixty() {
        String right = repeated("0;", 57);
        ShutterBench b = with(right + "c1");
        same("59 characters", b.firstError(), 57);
        b.clearBuffer();
        b = with(right + ";c1");
        same("60 characters", b.firstError(), 60);
        CHECKS.badState("61 characters", b, () -> b61(right).append('0'));
        CHECKS.illegal("61 characters, no such code", b, () -> b61(right).append(127));
        CHECKS.illegal("61 characters, no such code", b, () -> b61(right).append(32));
        same("60 characters are played", b.play(), 29);
        same("60 characters are gone", b.append('0'), 1);

        b = with(repeated("0;", 60));
        same("60 characters, it ends too early", b.firstError(), 60);
        CHECKS.illegal("60 characters, it ends too early", b, b::play);
        same("60 characters stay", b.clearBuffer(), 60);
        b = with(repeated("0;", 59) + "0");
        same("60 characters, the last one is an error", b.firstError(), 59);
        CHECKS.illegal("60 characters, the last one is an error", b, b::play);
        b = with(repeated("0;", 56) + "w0:7");
        same("a spring at the end", b.play(), 28);
        same("a spring at the end", b.curtain(0, 0), 7);
        b = with(repeated("0;", 54) + "0;w1:9");
        same("a spring of one digit at the end", b.firstError(), 60);
        same("a spring of one digit at the end", b.play(), 28);
        same("a spring of one digit at the end", b.curtain(1, 0), 9);
        b = with("1;" + repeated("0*2;", 52) + "w0:99");
        same("59 characters, a spring of two digits at the end", b.play(), 27);
        same("59 characters, a spring of two digits at the end", b.curtain(0, 0), 99);
        b = with("1*2" + repeated(";0*2", 52) + ";w0:9");
        same("60 characters", b.firstError(), 60);
        CHECKS.badState("no room for the second digit", b, () -> bWithLateSpring().append('9'));
        same("the spring that has room", b.play(), 28);
        same("the spring that has room", b.curtain(0, 0), 9);
        b = with(repeated("0;", 56) + "w0:;");
        same("no spring at the end", b.firstError(), 59);
        b = with(repeated("0;", 58) + "0*");
        same("no number at the end", b.firstError(), 60);
        CHECKS.illegal("no number at the end", b, b::play);

        ShutterBench full = with(repeated("!", 60));
        same("60 characters of no text", full.firstError(), 0);
        CHECKS.badState("full", full, () -> full.append(33));
        CHECKS.badState("full", full, () -> full.append(126));
        CHECKS.illegal("full, no such code", full, () -> full.append(Integer.MAX_VALUE));
        CHECKS.illegal("full, no such code", full, () -> full.append(Integer.MIN_VALUE));
        same("full", full.clearBuffer(), 60);
        same("no error is left", full.firstError(), 0);
    }

    private static ShutterBench bWithLateSpring() {
        return with("1*2" + repeated(";0*2", 52) + ";w0:9");
    }

    private static ShutterBench b61(String right) {
        return with(right + ";c1");
    }

    /** "the index of the first character that is a syntax error; the length of the buffer if there is none". */
    private static void errorsByPlace() {
        String[] texts = {"x", "0x", "0*1", "0*x9", "w2:5", "w0;5", "w0:0", "w0:05", "w0:100", "w1:99*2", "c2", "c0*2", ";",
            "0;;", "0;x;y", "5:", "6", "00", "0*10", "w0:1;;", "W0:5", "0*2*2", "c", "w", "w0", "w0:", "0*", "0;"};
        int[] errors = {0, 1, 2, 2, 1, 2, 3, 3, 5, 5, 1, 2, 0, 2, 2, 1, 0, 1, 2, 5, 0, 3, 1, 1, 2, 3, 2, 2};
        for (int k = 0; k < texts.length; k++) {
            ShutterBench b = with(texts[k]);
            same("first error of " + texts[k], b.firstError(), errors[k]);
            CHECKS.illegal("play of " + texts[k], b, b::play);
            b.append('%');
            same("first error of " + texts[k] + "%", b.firstError(), errors[k]);
        }
    }

    /** "Does what is in the buffer, one part after the other". */
    private static void oneAfterTheOther() {
        ShutterBench b = with("w0:9;w0:8");
        b.play();
        same("the last one counts", b.curtain(0, 0), 8);
        b = with("5;w1:25;5;w1:50");
        b.play();
        // With 25 the second curtain takes 40: 20 more light a column.
        same("light of the last shot", b.count(1), 24 * 640 + 20 * 300);
        same("spread of the last shot", b.count(3), 460);
        same("spring behind it", b.curtain(1, 0), 50);
        b = with("w1:25;5;w1:50;5");
        b.play();
        same("light of the last shot", b.count(1), 24 * 640);
        same("greatest spread", b.count(3), 460);
        b = with("0*9;c0;0*3;c1;0");
        same("shots between", b.play(), 13);
        same("shots since", b.curtain(0, 1), 4);
        same("shots since", b.curtain(1, 1), 1);
        b = with("0*9;0*9;0;w0:9;w1:9;1*2");
        same("21 shots", b.play(), 21);
        same("wear at the 20th, behind the winding", b.curtain(0, 0), 8);
        same("wear at the 20th, behind the winding", b.curtain(1, 0), 8);
        b = with("0*9;0*9;0;1*2;w0:9");
        b.play();
        same("wear at the 20th, before the winding", b.curtain(0, 0), 9);
        same("wear at the 20th", b.curtain(1, 0), 49);
    }

    /** "Undoable, as one call", with its shots; the text does not come back. */
    private static void playIsOneCall() {
        ShutterBench b = new ShutterBench();
        long before = b.digest();
        String text = "w0:30;5*9;c1;w1:7;4*9;3*9";
        for (int k = 0; k < text.length(); k++) {
            b.append(text.charAt(k));
        }
        same("shots", b.play(), 27);
        same("one saved state", b.count(4), 1);
        same("none is left", b.undo(), 0);
        same("as it was, without the text", b.digest(), before);
        CHECKS.badState("no more than one", b, b::undo);
    }
}
