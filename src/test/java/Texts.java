import java.util.Random;

/** Texts that are PROGRAMS, or nearly. */
final class Texts {
    private final Random dice;
    private final int lanes;

    Texts(Random dice, int lanes) {
        this.dice = dice;
        this.lanes = lanes;
    }

    String text() {
        StringBuilder text = new StringBuilder(statements(dice.nextInt(4)));
        int spoils = dice.nextInt(3) == 0 ? 1 + dice.nextInt(2) : 0;
        for (int s = 0; s < spoils; s++) spoil(text);
        return text.length() > 100 ? text.substring(0, 100) : text.toString();
    }

    private void spoil(StringBuilder text) {
        String signs = "tsuabcdef0123456789();=  gT\n\0\u00ff";
        char sign = signs.charAt(dice.nextInt(signs.length()));
        int at = dice.nextInt(text.length() + 1);
        switch (dice.nextInt(4)) {
            case 0: text.insert(at, sign); break;
            case 1: text.setLength(at); break;
            case 2: if (at < text.length()) text.deleteCharAt(at); break;
            default: if (at < text.length()) text.setCharAt(at, sign);
        }
    }

    private String statements(int depth) {
        StringBuilder text = new StringBuilder(statement(depth));
        for (int more = dice.nextInt(4); more > 0; more--) text.append(';').append(statement(depth));
        return text.toString();
    }

    private String statement(int depth) {
        int kind = dice.nextInt(depth > 0 ? 9 : 5);
        char name = (char) ('a' + dice.nextInt(dice.nextBoolean() ? 2 : 6));
        switch (kind) {
            case 0: case 1: return "t " + lane() + " " + turn();
            case 2: return "s " + lane();
            case 3: return "u " + lane() + " " + turn();
            case 4: return String.valueOf(name);
            case 5: case 6: return dice.nextInt(dice.nextInt(5) == 0 ? 10 : 3) + "(" + statements(depth - 1) + ")";
            default: return name + "=(" + statements(depth - 1) + ")";
        }
    }

    private int lane() {
        return dice.nextInt(40) == 0 ? dice.nextInt(dice.nextBoolean() ? 12 : 100) : dice.nextInt(lanes - 1);
    }

    private int turn() {
        return dice.nextInt(40) == 0 ? 90 + dice.nextInt(12) : dice.nextInt(4) == 0 ? dice.nextInt(3) : dice.nextInt(96);
    }
}
