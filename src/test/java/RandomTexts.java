import java.util.ArrayList;
import java.util.Collections;
import java.util.List;
import java.util.Random;

/** Texts by draws: most are whole, with blanks here and there; some have a sign too many, too few or another one. */
final class RandomTexts {
    private static final String[] SIGNS = {"sfw;lcygavk0123456789 x", "y:;kgnbld0123456789[]()!&|=<>+-*/? x",
        "fpin;0123456789 x"};

    private final Random random;

    RandomTexts(Random random) {
        this.random = random;
    }

    String of(int sort) {
        String text = sort == 0 ? village() : sort == 1 ? law() : spring();
        text = random.nextInt(4) == 0 ? spoilt(text, SIGNS[sort]) : text;
        return text.length() > 250 ? text.substring(0, 250) : text;
    }

    private String village() {
        int farms = 1 + random.nextInt(random.nextInt(20) == 0 ? 8 : 6);
        int wrongs = farms == 1 ? 0 : random.nextInt(random.nextInt(20) == 0 ? 12 : 10);
        int longest = random.nextBoolean() ? 9 : 40;
        List<String> clauses = new ArrayList<>();
        for (int i = 0; i < farms; i++) {
            clauses.add(clause('f', "yg", random.nextInt(longest) + 1, random.nextInt(10)));
        }
        for (int i = 0; i < wrongs; i++) {
            int who = random.nextInt(farms);
            int whom = (who + 1 + random.nextInt(random.nextInt(60) == 0 ? farms : farms - 1)) % farms;
            clauses.add(clause('w', "avk", who, whom, random.nextInt(9) + 1));
        }
        if (random.nextBoolean()) {
            clauses.add(clause('s', "lc", random.nextInt(100), random.nextInt(100)));
        }
        Collections.shuffle(clauses, random);
        return String.join(";", clauses);
    }

    /** Items may be left out, but not so that a wrong would be another one's. */
    private String clause(char kind, String letters, int... values) {
        StringBuilder text = new StringBuilder().append(blank()).append(kind).append(blank());
        boolean usual = kind != 'w' || values[0] == 0 && values[1] == 1;
        for (int i = 0; i < values.length; i++) {
            char letter = letters.charAt(i);
            boolean may = usual || letter == 'k';
            if (!may || random.nextInt(3) > 0) {
                int value = random.nextInt(200) == 0 ? beyond(letter) : values[i];
                text.append(letter).append(blank());
                text.append(value < 10 && random.nextInt(6) == 0 ? "0" : "").append(value).append(blank());
            }
        }
        return text.toString();
    }

    /** A number that is not within the bounds of a letter. */
    private int beyond(char letter) {
        switch (letter) {
            case 'l': case 'c': return 100;
            case 'y': return random.nextBoolean() ? 0 : 41;
            case 'k': return random.nextBoolean() ? 0 : 10;
            case 'g': return 10;
            default: return 6;
        }
    }

    private String law() {
        StringBuilder text = new StringBuilder();
        for (int i = random.nextInt(random.nextInt(10) == 0 ? 30 : 4); i >= 0; i--) {
            text.append("y").append(blank()).append(':').append(blank());
            if (random.nextInt(3) > 0) {
                condition(text, 0);
                text.append('?').append(blank());
            }
            sum(text, 0);
            text.append(i > 0 ? ";" : "");
        }
        return text.toString();
    }

    private void condition(StringBuilder text, int depth) {
        unit(text, depth);
        while (random.nextInt(3) == 0) {
            text.append(random.nextBoolean() ? '|' : '&').append(blank());
            unit(text, depth);
        }
    }

    private void unit(StringBuilder text, int depth) {
        int kind = depth < 7 ? random.nextInt(6) : 5;
        if (kind == 0) {
            text.append('!').append(blank());
            unit(text, depth + 1);
        } else if (kind == 1) {
            condition(text.append('('), depth + 1);
            text.append(')').append(blank());
        } else {
            sum(text, depth);
            text.append("=<>".charAt(random.nextInt(3))).append(blank());
            sum(text, depth);
        }
    }

    private void sum(StringBuilder text, int depth) {
        atom(text, depth);
        while (random.nextInt(5) < 2) {
            text.append("+-*/".charAt(random.nextInt(4))).append(blank());
            atom(text, depth);
        }
    }

    private void atom(StringBuilder text, int depth) {
        int kind = random.nextInt(8);
        if (kind == 0 && depth < 7) {
            sum(text.append('['), depth + 1);
            text.append(']').append(blank());
        } else if (kind < 6) {
            text.append("kgnbldkgnb".charAt(random.nextInt(10))).append(blank());
        } else {
            int most = random.nextInt(6) == 0 ? 10001 : 12;
            text.append(random.nextInt(most)).append(blank());
        }
    }

    private String spring() {
        StringBuilder text = new StringBuilder();
        for (int i = random.nextInt(random.nextInt(6) == 0 ? 18 : 7); i >= 0; i--) {
            char step = "fpinfp".charAt(random.nextInt(6));
            text.append(blank()).append(step).append(blank());
            for (int digits = step == 'n' ? 0 : step == 'p' ? 2 : 1; digits > 0; digits--) {
                text.append(random.nextInt(step == 'f' ? 9 : 6)).append(blank());
            }
            text.append(i > 0 ? ";" : "");
        }
        return text.toString();
    }

    private String blank() {
        return random.nextInt(25) == 0 ? " " : "";
    }

    private String spoilt(String text, String signs) {
        StringBuilder other = new StringBuilder(text);
        int at = random.nextInt(text.length());
        char sign = signs.charAt(random.nextInt(signs.length()));
        switch (random.nextInt(5)) {
            case 0 -> other.deleteCharAt(at);
            case 1 -> other.insert(at, sign);
            case 2 -> other.setCharAt(at, sign);
            case 3 -> other.setLength(at);
            default -> other.append(sign);
        }
        return other.toString();
    }
}
