import java.util.Random;

/** Draws texts of the language, some of them spoilt. */
final class TextMaker {
    private static final String[] TOKENS = {
        "paste", "paint", "keep", "flip", "repeat", "to", "light", "x", "y", "left", "up", "round", "Light", "xy",
        "+", "-", "*", "/", "(", ")", "{", "}", ";", "0", "1", "5", "9", "50", "51", "99", "100", "999", "1000", "0007",
        "99999999999999999999", "\t", "@", "\n", "\u00e9", ",", " "};
    private static final String[] NAMES = {"light", "x", "y", "left", "up", "round"};

    private final Random random;
    private final StringBuilder text = new StringBuilder();

    TextMaker(Random random) {
        this.random = random;
    }

    String text() {
        int kind = random.nextInt(10);
        if (kind == 0) {
            drawTokens();
        } else {
            int acts = random.nextInt(8) == 0 ? 15 + random.nextInt(4) : random.nextInt(4);
            for (int i = 0; i < acts; i++) {
                act(0, random.nextInt(8) == 0 ? 12 : 3);
            }
            if (kind <= 3) {
                spoil();
            }
        }
        if (text.length() > 300) {
            text.setLength(random.nextInt(301));
        }
        return text.toString();
    }

    private void drawTokens() {
        for (int i = random.nextInt(12); i >= 0; i--) {
            text.append(TOKENS[random.nextInt(TOKENS.length)]).append(random.nextBoolean() ? " " : "");
        }
    }

    private void spoil() {
        for (int i = random.nextInt(2); i >= 0 && text.length() > 0; i--) {
            int place = random.nextInt(text.length());
            String token = TOKENS[random.nextInt(TOKENS.length)];
            switch (random.nextInt(4)) {
                case 0:
                    text.setLength(place);
                    break;
                case 1:
                    text.deleteCharAt(place);
                    break;
                case 2:
                    text.insert(place, token);
                    break;
                default:
                    text.replace(place, Math.min(text.length(), place + token.length()), token);
                    break;
            }
        }
    }

    private int draw(int low, int high) {
        return low + random.nextInt(high - low + 1);
    }

    private int wrongly(int low, int high) {
        int kind = random.nextInt(60);
        return kind == 0 ? high + 1 : kind == 1 ? Math.max(0, low - 1) : kind == 2 ? high : kind == 3 ? low : draw(low, Math.min(high, 13));
    }

    private void number(int low, int high) {
        text.append(wrongly(low, high)).append(random.nextInt(6) == 0 ? "\n " : " ");
    }

    private void field() {
        number(0, 99);
        number(0, 99);
        number(1, 99);
        number(1, 99);
    }

    private void act(int depth, int deep) {
        switch (random.nextInt(depth < deep ? 7 : 5)) {
            case 0:
                text.append("paste ");
                number(0, 4);
                field();
                text.append("to");
                number(0, 99);
                number(0, 99);
                break;
            case 1:
            case 2:
                text.append("paint ");
                field();
                sum(0, deep);
                break;
            case 3:
                text.append("keep ");
                number(2, 50);
                number(0, 99);
                number(0, 99);
                break;
            case 4:
                text.append("flip ");
                field();
                break;
            default:
                text.append("repeat ");
                number(1, 9);
                text.append("{");
                for (int i = random.nextInt(3); i > 0; i--) {
                    act(depth + 1, deep);
                }
                text.append("}");
                return;
        }
        text.append(";");
    }

    private void sum(int depth, int deep) {
        product(depth, deep);
        for (int i = random.nextInt(3); i > 0; i--) {
            text.append(random.nextBoolean() ? "+" : "-");
            product(depth, deep);
        }
    }

    private void product(int depth, int deep) {
        one(depth, deep);
        for (int i = random.nextInt(3) - 1; i > 0; i--) {
            text.append(random.nextBoolean() ? "*" : "/");
            one(depth, deep);
        }
    }

    private void one(int depth, int deep) {
        int kind = random.nextInt(depth < deep ? 8 : 5);
        if (kind < 2) {
            text.append(random.nextInt(3) == 0 ? draw(0, 999) : draw(0, 9)).append(random.nextInt(50) == 0 ? "0" : "");
        } else if (kind < 5) {
            text.append(NAMES[random.nextInt(NAMES.length)]);
        } else if (kind == 5) {
            text.append("-");
            one(depth + 1, deep);
        } else {
            text.append("(");
            sum(depth + 1, deep);
            text.append(")");
        }
    }
}
