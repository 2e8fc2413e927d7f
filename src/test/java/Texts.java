import java.util.Random;

/** Random TEXTS: right ones by the grammar, and such with a wrong byte, or cut. */
final class Texts {
    private final Random random;
    private final String names;

    private Texts(Random random, String names) {
        this.random = random;
        this.names = names;
    }

    static String any(Random random, String names) {
        String text = new Texts(random, names).level(0, 3);
        int change = random.nextInt(8);
        if (change == 0 && !text.isEmpty()) {
            int at = random.nextInt(text.length());
            String bytes = "|&<=>+-*/%!()09fwdonx \u0000\u00ff";
            text = text.substring(0, at) + bytes.charAt(random.nextInt(bytes.length())) + text.substring(at + 1);
        } else if (change == 1) {
            text = text.substring(0, random.nextInt(text.length() + 1));
        } else if (change == 2) {
            text += "|&<=>+-*/%!()09fwdon".charAt(random.nextInt(20));
        }
        return text.length() > 50 ? text.substring(0, 50) : text;
    }

    private String level(int level, int depth) {
        String[] signs = {"|", "&", "<=>", "+-", "*/%"};
        if (level == signs.length) {
            return unit(depth);
        }
        StringBuilder text = new StringBuilder(level(level + 1, depth));
        int more = random.nextInt(10) < 7 ? 0 : level == 2 ? random.nextInt(12) == 0 ? 2 : 1 : 1 + random.nextInt(2);
        for (int i = 0; i < more; i++) {
            text.append(signs[level].charAt(random.nextInt(signs[level].length())));
            text.append(level(level + 1, depth));
        }
        return text.toString();
    }

    private String unit(int depth) {
        switch (random.nextInt(10)) {
            case 0:
            case 1: return "!" + (random.nextInt(5) == 0 ? "!!" : "") + unit(depth - 1);
            case 2:
            case 3:
                return depth > 0 ? "(" + level(0, depth - 1) + ")" : "((" + names.charAt(0) + "))";
            case 4:
            case 5:
            case 6: return Integer.toString(random.nextInt(random.nextInt(30) == 0 ? 100000 : 30));
            default: return names.substring(random.nextInt(3)).substring(0, 1);
        }
    }
}
