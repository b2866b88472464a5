import java.util.Random;

/** Random texts: mostly good ones, some with a sign changed, some of mere tokens. */
final class Texts {
    private static final String[] TOKENS = {
        "let", "fun", "sqrt", "abs", "max", "min", "if", "nought", "area", "most", "least", "a", "b", "c", "t", "f",
        "=", ";", "+", "-", "*", "/", "(", ")", ",", "<", ">", "0", "1", "7", "64", "65", "999", "1000", "foo", "$", "\n", " ",
        "\u00e9", "A", "\t", "."
    };

    private final Random random;
    private StringBuilder made;
    private String numbers;
    private String functions;
    private boolean inFun;
    private int open;

    Texts(Random random) {
        this.random = random;
    }

    private int below(int n) {
        return random.nextInt(n);
    }

    /** At most 500 signs. */
    String any() {
        int how = below(10);
        String text = how < 9 ? lines(how < 7) : tokensAlone();
        if (how >= 6 && how < 9) {
            text = spoil(text);
        }
        return text.length() > 500 ? text.substring(0, 500) : text;
    }

    String good() {
        for (int k = 0; k < 1000; k++) {
            String text = lines(true);
            if (text.length() <= 500) {
                return text;
            }
        }
        return "";
    }

    /** A good text of mostly ifs, mostly with as many knots as it may have, each line made of those ahead. */
    String full() {
        for (int k = 0; k < 1000; k++) {
            made = new StringBuilder();
            numbers = "";
            functions = "";
            int lines = 1 + below(below(3) == 0 ? 18 : 4);
            int knots = below(4) == 0 ? 80 + below(17) : 96;
            fullLines(lines, knots);
            if (made.length() <= 500) {
                return made.toString();
            }
        }
        return "";
    }

    private void fullLines(int lines, int knots) {
        int left = knots;
        for (int line = lines; line > 0 && left > 0; line--) {
            inFun = line > 1 && functions.length() < 6 && (numbers.length() >= 11 || below(3) == 0);
            char letter = (char) ('a' + lines - line);
            int share = line == 1 ? left : Math.max(1, left / line + below(7) - 3);
            made.append(inFun ? "fun " : "let ").append(letter).append('=');
            open = 0;
            withKnots(Math.min(share, left));
            made.append(';');
            left -= share;
            functions += inFun ? letter : "";
            numbers += inFun ? "" : letter;
        }
    }

    /** Signs between two need no brackets here: whatever they bind, the knots are as many. */
    private void withKnots(int knots) {
        int how = below(20);
        if (knots <= 1) {
            smallLeaf();
        } else if (knots >= 5 && open < 8 && how < 16) {
            int first = 1 + (below(2) == 0 ? 0 : below(knots - 4));
            int second = 1 + (below(2) == 0 ? 0 : below(knots - 3 - first));
            int third = 1 + below(knots - 2 - first - second);
            opened("if(", first);
            between(below(2) == 0 ? "<" : ">", second);
            between(",", third);
            between(",", knots - 1 - first - second - third);
            closed();
        } else if (knots >= 3 && (open >= 8 || how >= 10)) {
            int first = 1 + below(knots - 2);
            withKnots(first);
            between(how == 19 ? "/" : how % 3 == 0 ? "*" : how % 3 == 1 ? "+" : "-", knots - 1 - first);
        } else if (open >= 8 || how == 0) {
            between("-", knots - 1);
        } else {
            opened(how < 6 && !functions.isEmpty() ? latest(functions) + "(" : how < 10 ? "abs(" : "sqrt(", knots - 1);
            closed();
        }
    }

    private void opened(String word, int knots) {
        open++;
        between(word, knots);
    }

    private void between(String sign, int knots) {
        made.append(sign);
        withKnots(knots);
    }

    private void closed() {
        made.append(')');
        open--;
    }

    /** Mostly what was told last, so that the lines lie deep in one another. */
    private char latest(String letters) {
        return letters.charAt(below(3) == 0 ? below(letters.length()) : letters.length() - 1);
    }

    private void smallLeaf() {
        int how = below(20);
        if (how < 4 && inFun) {
            made.append('t');
        } else if (how < 9 && !numbers.isEmpty()) {
            made.append(latest(numbers));
        } else if (how == 9 && open < 8 && !functions.isEmpty() && made.length() < 420) {
            over();
            made.append(')');
        } else {
            made.append(below(4));
        }
    }

    private String tokensAlone() {
        StringBuilder text = new StringBuilder();
        for (int k = below(40); k >= 0; k--) {
            text.append(TOKENS[below(TOKENS.length)]).append(below(3) == 0 ? " " : "");
        }
        return text.toString();
    }

    private String spoil(String text) {
        StringBuilder spoilt = new StringBuilder(text);
        for (int k = below(2); k >= 0 && spoilt.length() > 0; k--) {
            int at = below(spoilt.length());
            switch (below(4)) {
                case 0:
                    spoilt.deleteCharAt(at);
                    break;
                case 1:
                    spoilt.setLength(at);
                    break;
                default:
                    spoilt.insert(at, TOKENS[below(TOKENS.length)]);
                    break;
            }
        }
        return spoilt.toString();
    }

    private String lines(boolean within) {
        made = new StringBuilder();
        numbers = "";
        functions = "";
        int lines = 1 + below(within ? 8 : 21);
        int deep = within ? 1 + below(4) : 1 + below(9);
        for (int k = 0; k < lines; k++) {
            char letter = (char) ('a' + below(26));
            boolean taken = letter == 't' || (numbers + functions).indexOf(letter) >= 0;
            if (taken && (within || below(20) != 0)) {
                continue;
            }
            inFun = below(3) == 0 && (!within || functions.length() < 6);
            made.append(inFun ? "fun " : "let ").append(letter).append(below(2) == 0 ? " = " : "=");
            open = 0;
            sum(below(deep + 1));
            made.append(below(4) == 0 ? ";\n" : ";");
            if (inFun) {
                functions += letter;
            } else {
                numbers += letter;
            }
        }
        return made.toString();
    }

    private void sum(int deep) {
        product(deep);
        while (below(5) < 2 && made.length() < 450) {
            made.append(below(2) == 0 ? "+" : " - ");
            product(deep);
        }
    }

    private void product(int deep) {
        signed(deep);
        while (below(5) == 0 && made.length() < 450) {
            made.append(below(2) == 0 ? "*" : "/");
            signed(deep);
        }
    }

    private void signed(int deep) {
        while (below(10) == 0) {
            made.append('-');
        }
        if (deep <= 0 || open >= 8 && below(50) != 0) {
            leaf();
        } else {
            open++;
            branch(deep - 1);
            open--;
        }
    }

    private void leaf() {
        int how = below(10);
        if (inFun && how < 5 || how == 0 && below(100) == 0) {
            made.append('t');
        } else if (how < 8 && !numbers.isEmpty()) {
            made.append(numbers.charAt(below(numbers.length())));
        } else {
            int size = below(20);
            made.append(size == 0 ? below(1000) : size < 4 ? below(100) : below(5));
        }
    }

    private void branch(int deep) {
        int how = below(12);
        if (how < 5 && functions.isEmpty()) {
            how = 5 + below(7);
        }
        switch (how) {
            case 0:
            case 1:
            case 2:
                made.append(functions.charAt(below(functions.length()))).append('(');
                sum(deep);
                break;
            case 3:
            case 4:
                over();
                break;
            case 5:
            case 6:
                made.append('(');
                sum(deep);
                break;
            case 7:
            case 8:
                made.append(below(2) == 0 ? "sqrt(" : "abs(");
                sum(deep);
                break;
            case 9:
                made.append(below(2) == 0 ? "max(" : "min(");
                sum(deep);
                made.append(", ");
                sum(deep);
                break;
            default:
                made.append("if(");
                sum(deep);
                made.append(below(2) == 0 ? "<" : ">");
                sum(deep);
                made.append(',');
                sum(deep);
                made.append(',');
                sum(deep);
                break;
        }
        made.append(')');
    }

    private void over() {
        String[] words = {"nought", "area", "most", "least"};
        int from = below(4) == 0 ? below(128) - 64 : below(8) - 4;
        int to = Math.min(64, from + 1 + (below(4) == 0 ? below(64) : below(4)));
        made.append(words[below(4)]).append('(').append(functions.charAt(below(functions.length())));
        made.append(',').append(from).append(',').append(to);
    }
}
