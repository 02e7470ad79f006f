import java.util.ArrayList;
import java.util.List;
import java.util.Random;

/** Promises 1 to 6: a new object, the tower, the tape, the law and the weights. */
public final class TowerTest {
    private static final int[] FIRST = {20, 2, 1, 10};
    private static final int[] LEAST = {1, 0, 0, 0};
    private static final int[] MOST = {60, 6, 99, 99};

    private static void newObject(Check check) {
        TwoJars x = new TwoJars();
        for (int what = 0; what < 4; what++) {
            check.due("new of(" + what + ")", x.of(what), FIRST[what]);
            check.due("new led(" + what + ")", x.led(what), TwoJars.STATE);
            check.due("new count(" + what + ")", x.count(what), 0);
        }
        check.due("new led(4)", x.led(4), 0);
        check.due("new led(5)", x.led(5), 0);
        check.due("new drop", x.drop(1), TwoJars.STATE);
        check.due("new guess", x.guess(0), TwoJars.STATE);
        check.due("new back", x.back(), TwoJars.STATE);
        check.due("new undo", x.undo(), TwoJars.STATE);
        check.due("new redo", x.redo(), TwoJars.STATE);
        check.due("new image", x.image(), 0);
        for (int shelf = 0; shelf < 6; shelf++) {
            check.due("new judge", x.judge(shelf), -11);
        }
        check.due("new weight", x.weight(7), 1);
    }

    private static void mended(Check check) {
        TwoJars x = new TwoJars();
        int[] now = FIRST.clone();
        int[] wrongWhats = {-1, 4, Integer.MIN_VALUE, Integer.MAX_VALUE};
        for (int what : wrongWhats) {
            check.due("mend(" + what + ", 1)", x.mend(what, 1), TwoJars.BAD);
            check.due("of(" + what + ")", x.of(what), TwoJars.BAD);
        }
        for (int what = 0; what < 4; what++) {
            int[] tried = {LEAST[what], MOST[what], LEAST[what] - 1, MOST[what] + 1, 5, Integer.MIN_VALUE,
                Integer.MAX_VALUE};
            for (int v : tried) {
                boolean fits = v >= LEAST[what] && v <= MOST[what];
                String call = "mend(" + what + ", " + v + ")";
                check.due(call, x.mend(what, v), fits ? now[what] : TwoJars.BAD);
                if (fits) {
                    now[what] = v;
                }
                for (int other = 0; other < 4; other++) {
                    check.due(call + " of(" + other + ")", x.of(other), now[other]);
                }
            }
        }
    }

    private static void tape(Check check) {
        TwoJars x = new TwoJars();
        check.due("feed(-1)", x.feed(-1), TwoJars.BAD);
        check.due("feed(256)", x.feed(256), TwoJars.BAD);
        check.due("feed(0)", x.feed(0), 1);
        check.due("feed(255)", x.feed(255), 2);
        check.due("law", x.law(), -100);
        check.due("count(0)", x.count(0), 0);
        check.due("law of an empty tape", x.law(), -100);
        x.feed('1');
        for (int i = 2; i <= 120; i++) {
            check.due("feed " + i, x.feed(i % 2 == 0 ? '-' : '1'), i);
            check.due("count(0)", x.count(0), i);
        }
        check.due("feed, full", x.feed('1'), TwoJars.FULL);
        check.due("feed(256), full", x.feed(256), TwoJars.BAD);
        check.due("count(0), full", x.count(0), 120);
        check.due("law of 120 bytes", x.law(), -220);
        check.due("count(0) behind law", x.count(0), 0);
    }

    private static void given(Check check) {
        String[][] texts = {
            {"h", "1"}, {"", "-100"}, {"h-", "-102"}, {"(h", "-102"}, {"h;", "-102"}, {"1?", "-102"}, {";", "-100"},
            {"hh", "-101"}, {"12345", "-104"}, {"1234", "1"}, {"0000", "1"}, {" 1", "-100"}, {"1 ", "-101"},
            {"1<2<3", "-103"}, {"1<2=3", "-103"}, {"(1<2)<3", "1"}, {"1?2?3", "-103"}, {"(1?2)", "-102"},
            {"1?2;3", "1"}, {"(1;2)", "-102"}, {"1)", "-101"}, {"()", "-101"}, {"!!!!!!1", "1"}, {"!!!!!!!1", "-106"},
            {"------1", "1"}, {"-------1", "-106"}, {"((((((1))))))", "1"}, {"(((((((1)))))))", "-106"},
            {"-(-(-(1)))+-(-(-(1)))", "1"}, {"-(-(-(-1)))", "-106"}, {"1--1", "1"}, {"1-----1", "1"},
            {"!(1)+!(!(!1))", "1"}, {"H", "-100"}, {"1+", "-102"}, {"1+*", "-102"}, {"1&|2", "-102"}, {"n%j", "1"},
            {"1&2|3", "1"}, {"a", "-100"}, {"h1", "-101"}, {"1h", "-101"}, {"1;;2", "-102"}, {"1?2;", "-104"},
            {"-(h)!", "-104"}, {"1!2", "-101"}, {"(1)(2)", "-103"}, {"\u0080", "-100"}, {"1\u00ff", "-101"}};
        for (String[] text : texts) {
            TwoJars x = new TwoJars();
            check.due("law of " + text[0], Check.law(x, text[0]), Long.parseLong(text[1]));
            check.due("count(0) behind " + text[0], x.count(0), 0);
        }
    }

    private static void weighed(Check check) {
        String[][] texts = {
            {"h", "0 5 9"}, {"0-1", "0 0 0"}, {"9999", "9 9 9"}, {"7-2-1", "4 4 4"}, {"8/2/2", "2 2 2"}, {"2+3*2", "8 8 8"},
            {"(2+1)*2", "6 6 6"}, {"-7/2+9", "6 6 6"}, {"-7%4+9", "6 6 6"}, {"5/0+3", "3 3 3"}, {"5%0+3", "3 3 3"},
            {"h=5?7;h>5?2;4", "4 7 2"}, {"h<5?6", "6 0 0"}, {"!h*3", "3 0 0"}, {"!h+1*3", "4 3 3"}, {"-h+9", "9 4 0"},
            {"h|0", "0 1 1"}, {"h&3", "0 1 1"}, {"2&0|h", "0 1 1"}, {"1|0&0", "1 1 1"}, {"h=5", "0 1 0"},
            {"h<5", "1 0 0"}, {"h>5", "0 0 1"}, {"n-16", "4 4 4"}, {"j*3", "6 6 6"}, {"n-h", "9 9 0"},
            {"1+2<2+2", "1 1 1"}, {"h?h;8", "8 5 9"}, {"0?1;0?2", "0 0 0"}, {"0;9", "0 0 0"}, {"2&3", "1 1 1"},
            {"9999*9999*9999>0", "0 0 0"}, {"9999*9999*999>0", "1 1 1"}, {"!5", "0 0 0"}, {"!!5", "1 1 1"}, {"--h", "0 5 9"},
            {"h%3", "0 2 2"}, {"0-7/2+9", "6 6 6"}};
        int[] heights = {0, 5, 20};
        for (String[] text : texts) {
            TwoJars x = new TwoJars();
            check.due("law of " + text[0], Check.law(x, text[0]), 1);
            String[] want = text[1].split(" ");
            for (int i = 0; i < 3; i++) {
                check.due(text[0] + " weight(" + heights[i] + ")", x.weight(heights[i]), Long.parseLong(want[i]));
            }
        }
    }

    private static void weights(Check check) {
        TwoJars x = new TwoJars();
        check.due("weight(-1)", x.weight(-1), TwoJars.BAD);
        check.due("weight(21)", x.weight(21), TwoJars.BAD);
        check.due("weight(20)", x.weight(20), 1);
        Check.law(x, "n%10+j");
        check.due("weight by n, j", x.weight(0), 2);
        x.mend(0, 13);
        x.mend(1, 3);
        check.due("weight by other n, j", x.weight(0), 6);
        check.due("weight(14)", x.weight(14), TwoJars.BAD);
        check.due("weight(13)", x.weight(13), 6);
        x.undo();
        check.due("weight behind undo", x.weight(0), 5);
        check.due("a law with a fault", Check.law(x, "1+"), -102);
        check.due("weight by the law as it was", x.weight(0), 5);
        check.due("another law", Check.law(x, "4"), 1);
        check.due("weight by another law", x.weight(0), 4);
        for (int i = 0; i < 100; i++) {
            check.due("law " + i, Check.law(x, "(((h-" + i + ")))+" + (i + i % 7) + "-h"), 1);
            check.due("weight by law " + i, x.weight(11), i % 7);
            check.due("law " + i + " with a fault", Check.law(x, "1+2+3+4+5+6+7+8+9*"), -118);
            check.due("weight by law " + i + " still", x.weight(3), i % 7);
        }
    }

    // ---- texts made by chance, against an account of brackets and a tree of what they mean

    private static final class Maker {
        private final Random random;
        private final StringBuilder text = new StringBuilder();
        private final int h;
        private final int n;
        private final int j;

        Maker(Random random, int h, int n, int j) {
            this.random = random;
            this.h = h;
            this.n = n;
            this.j = j;
        }

        int textValue(int lines) {
            Integer value = null;
            for (int line = 0; line < lines; line++) {
                if (line > 0) {
                    text.append(';');
                }
                int first = either(0);
                boolean counts = true;
                int told = first;
                if (random.nextInt(3) > 0) {
                    text.append('?');
                    told = either(0);
                    counts = first != 0;
                }
                if (value == null && counts) {
                    value = told;
                }
            }
            return value == null ? 0 : value;
        }

        private boolean more() {
            return random.nextInt(5) == 0;
        }

        private int either(int open) {
            int v = both(open);
            while (more()) {
                text.append('|');
                int w = both(open);
                v = v != 0 || w != 0 ? 1 : 0;
            }
            return v;
        }

        private int both(int open) {
            int v = compared(open);
            while (more()) {
                text.append('&');
                int w = compared(open);
                v = v != 0 && w != 0 ? 1 : 0;
            }
            return v;
        }

        private int compared(int open) {
            int v = sum(open);
            if (!more()) {
                return v;
            }
            char sign = "<=>".charAt(random.nextInt(3));
            text.append(sign);
            int order = Integer.compare(v, sum(open));
            return order == sign - '=' ? 1 : 0;
        }

        private int sum(int open) {
            int v = product(open);
            while (more()) {
                boolean plus = random.nextBoolean();
                text.append(plus ? '+' : '-');
                int w = product(open);
                v = plus ? v + w : v - w;
            }
            return v;
        }

        private int product(int open) {
            int v = operand(open);
            while (more()) {
                int sign = random.nextInt(3);
                text.append("*/%".charAt(sign));
                int w = operand(open);
                v = sign == 0 ? v * w : w == 0 ? 0 : sign == 1 ? v / w : v % w;
            }
            return v;
        }

        private int operand(int open) {
            int sort = random.nextInt(open < 6 ? 10 : 6);
            if (sort < 3) {
                int[] most = {10, 100, 1000, 10000};
                int number = random.nextInt(most[random.nextInt(4)]);
                text.append(number);
                return number;
            }
            if (sort < 6) {
                text.append("hnj".charAt(sort - 3));
                return sort == 3 ? h : sort == 4 ? n : j;
            }
            if (sort == 6) {
                text.append('!');
                return operand(open + 1) == 0 ? 1 : 0;
            }
            if (sort == 7) {
                text.append('-');
                return -operand(open + 1);
            }
            text.append('(');
            int v = either(open + 1);
            text.append(')');
            return v;
        }
    }

    /** The place of the fault, or -1: by an account of what is open, without any recursion. */
    private static int faultOf(String text) {
        List<int[]> brackets = new ArrayList<>();
        int ahead = 0;
        int open = 0;
        int digits = 0;
        boolean wanted = true;
        boolean compared = false;
        boolean asked = false;
        for (int i = 0; i < text.length(); i++) {
            char c = text.charAt(i);
            boolean digit = c >= '0' && c <= '9';
            if (wanted) {
                if (digit || c == 'h' || c == 'n' || c == 'j') {
                    wanted = false;
                    digits = digit ? 1 : 0;
                    open -= ahead;
                    ahead = 0;
                } else if (c == '!' || c == '-' || c == '(') {
                    if (open == 6) {
                        return i;
                    }
                    open++;
                    ahead++;
                    if (c == '(') {
                        brackets.add(new int[] {ahead, compared ? 1 : 0});
                        ahead = 0;
                        compared = false;
                    }
                } else {
                    return i;
                }
                continue;
            }
            if (digit) {
                if (digits == 0 || digits == 4) {
                    return i;
                }
                digits++;
                continue;
            }
            digits = 0;
            wanted = c != ')';
            switch (c) {
                case '+': case '-': case '*': case '/': case '%':
                    break;
                case '|': case '&':
                    compared = false;
                    break;
                case '<': case '=': case '>':
                    if (compared) {
                        return i;
                    }
                    compared = true;
                    break;
                case ')':
                    if (brackets.isEmpty()) {
                        return i;
                    }
                    int[] bracket = brackets.remove(brackets.size() - 1);
                    open -= bracket[0];
                    compared = bracket[1] == 1;
                    break;
                case '?': case ';':
                    if (!brackets.isEmpty() || c == '?' && asked) {
                        return i;
                    }
                    asked = c == '?';
                    compared = false;
                    break;
                default:
                    return i;
            }
        }
        return wanted || !brackets.isEmpty() ? text.length() : -1;
    }

    private static String marred(Random random, String text) {
        StringBuilder marred = new StringBuilder(text);
        String signs = "0123hnj!-()+*/%|&<=>?;; x\u00ff";
        int times = random.nextInt(3);
        for (int i = 0; i < times && marred.length() > 0; i++) {
            int at = random.nextInt(marred.length());
            int way = random.nextInt(3);
            char sign = signs.charAt(random.nextInt(signs.length()));
            if (way == 0) {
                marred.setCharAt(at, sign);
            } else if (way == 1) {
                marred.insert(at, sign);
            } else {
                marred.setLength(at);
            }
        }
        return marred.length() > 120 ? marred.substring(0, 120) : marred.toString();
    }

    private static void byChance(Check check) {
        Random random = new Random(77);
        for (int i = 0; i < 30000; i++) {
            int n = 1 + random.nextInt(60);
            int h = random.nextInt(n + 1);
            int j = random.nextInt(7);
            Maker maker = new Maker(random, h, n, j);
            int value = maker.textValue(1 + random.nextInt(4));
            String text = maker.text.toString();
            TwoJars x = new TwoJars();
            x.mend(0, n);
            x.mend(1, j);
            if (text.length() <= 120) {
                check.due("law of " + text, Check.law(x, text), 1);
                check.due(text + " weight", x.weight(h), Math.max(0, Math.min(9, value)));
            }
            String marred = marred(random, text);
            int fault = faultOf(marred);
            check.due("law of " + marred, Check.law(x, marred), fault < 0 ? 1 : -100 - fault);
        }
    }

    public static void main(String[] args) {
        Check check = new Check("TowerTest");
        newObject(check);
        mended(check);
        tape(check);
        given(check);
        weighed(check);
        weights(check);
        byChance(check);
        check.end();
    }
}
