import java.util.Random;

/** Texts by draws: most are whole, with blanks here and there; some have a sign put in, left out or changed. */
final class RandomTexts {
    private static final String[] SIGNS = {"sfw;lcygavk0123456789 x", "y:;kgnbld0123456789[]()!&|=<>+-*/? x",
        "fpin;0123456789 x"};

    private final Random random;

    RandomTexts(Random random) {
        this.random = random;
    }

    String of(int sort) {
        String text = sort == 0 ? village() : sort == 1 ? law() : spring();
        text = random.nextInt(4) == 0 ? spoilt(text, SIGNS[sort]) : text;
        return text.length() > 250 ? text.substring(0, 250) : text;
    }

    private String village() {
        int farms = 1 + random.nextInt(random.nextInt(20) == 0 ? 8 : 6);
        int told = farms;
        int wrongs = farms == 1 ? 0 : random.nextInt(random.nextInt(20) == 0 ? 12 : 10);
        boolean ruled = random.nextBoolean();
        StringBuilder text = new StringBuilder();
        int longest = random.nextBoolean() ? 9 : 40;
        while (farms > 0 || wrongs > 0 || ruled) {
            int kind = random.nextInt(3);
            text.append(text.length() > 0 && text.charAt(text.length() - 1) != ';' ? ";" : "").append(blank());
            if (kind == 0 && ruled) {
                items(text.append('s'), "lc", random.nextInt(100), random.nextInt(100));
                ruled = false;
            } else if (kind == 1 && farms > 0) {
                items(text.append('f'), "yg", random.nextInt(longest) + 1, random.nextInt(10));
                farms--;
            } else if (kind == 2 && wrongs > 0) {
                int who = random.nextInt(told);
                int whom = (who + 1 + random.nextInt(random.nextInt(60) == 0 ? told : told - 1)) % told;
                items(text.append('w'), "avk", who, whom, random.nextInt(9) + 1);
                wrongs--;
            }
        }
        return text.toString();
    }

    private void items(StringBuilder text, String letters, int... values) {
        for (int i = 0; i < values.length; i++) {
            boolean left = letters.equals("avk") ? i == 2 || values[0] == 0 && values[1] == 1 : random.nextInt(4) == 0;
            if (!left || random.nextInt(3) > 0) {
                text.append(blank()).append(letters.charAt(i)).append(blank());
                text.append(values[i] < 10 && random.nextInt(6) == 0 ? "0" : "").append(values[i]).append(blank());
            }
        }
    }

    private String law() {
        StringBuilder text = new StringBuilder();
        for (int i = random.nextInt(4); i >= 0; i--) {
            text.append("y").append(blank()).append(':').append(blank());
            if (random.nextInt(3) > 0) {
                condition(text, 0);
                text.append('?').append(blank());
            }
            sum(text, 0);
            text.append(i > 0 ? ";" : "");
        }
        return text.toString();
    }

    private void condition(StringBuilder text, int depth) {
        unit(text, depth);
        while (random.nextInt(3) == 0) {
            text.append(random.nextBoolean() ? '|' : '&').append(blank());
            unit(text, depth);
        }
    }

    private void unit(StringBuilder text, int depth) {
        int kind = depth < 7 ? random.nextInt(6) : 5;
        if (kind == 0) {
            text.append('!').append(blank());
            unit(text, depth + 1);
        } else if (kind == 1) {
            condition(text.append('('), depth + 1);
            text.append(')').append(blank());
        } else {
            sum(text, depth);
            text.append("=<>".charAt(random.nextInt(3))).append(blank());
            sum(text, depth);
        }
    }

    private void sum(StringBuilder text, int depth) {
        atom(text, depth);
        while (random.nextInt(5) < 2) {
            text.append("+-*/".charAt(random.nextInt(4))).append(blank());
            atom(text, depth);
        }
    }

    private void atom(StringBuilder text, int depth) {
        int kind = random.nextInt(8);
        if (kind == 0 && depth < 7) {
            sum(text.append('['), depth + 1);
            text.append(']').append(blank());
        } else if (kind < 6) {
            text.append("kgnbldkgnb".charAt(random.nextInt(10))).append(blank());
        } else {
            int most = random.nextInt(6) == 0 ? 10001 : 12;
            text.append(random.nextInt(most)).append(blank());
        }
    }

    private String spring() {
        StringBuilder text = new StringBuilder();
        for (int i = random.nextInt(random.nextInt(6) == 0 ? 18 : 7); i >= 0; i--) {
            char step = "fpinfp".charAt(random.nextInt(6));
            text.append(blank()).append(step).append(blank());
            for (int digits = step == 'n' ? 0 : step == 'p' ? 2 : 1; digits > 0; digits--) {
                text.append(random.nextInt(step == 'f' ? 9 : 6)).append(blank());
            }
            text.append(i > 0 ? ";" : "");
        }
        return text.toString();
    }

    private String blank() {
        return random.nextInt(25) == 0 ? " " : "";
    }

    private String spoilt(String text, String signs) {
        StringBuilder other = new StringBuilder(text);
        int at = random.nextInt(text.length());
        char sign = signs.charAt(random.nextInt(signs.length()));
        switch (random.nextInt(5)) {
            case 0 -> other.deleteCharAt(at);
            case 1 -> other.insert(at, sign);
            case 2 -> other.setCharAt(at, sign);
            case 3 -> other.setLength(at);
            default -> other.append(sign);
        }
        return other.toString();
    }
}
