import java.util.Random;

/** Texts of valleys, made up. */
final class Texts {
    private Texts() {
    }

    /** A VALLEY of 100 bytes at most. */
    static String valley(Random random) {
        StringBuilder text = new StringBuilder();
        int clauses = 1 + random.nextInt(10);
        for (int n = 0; n < clauses; n++) {
            String clause = clause(random);
            if (text.length() + clause.length() < 100) {
                text.append(text.length() == 0 ? "" : ";").append(clause);
            }
        }
        return text.length() == 0 ? "pay 5" : text.toString();
    }

    private static String clause(Random random) {
        String word = new String[] {"fall", "fall", "bring", "bring", "bring", "cost", "cost", "pay", "keep"}
            [random.nextInt(9)];
        int most = word.equals("fall") ? 3 : word.equals("bring") ? 30 : 15;
        String head = word + " " + random.nextInt(most);
        return word.length() == 3 || word.equals("keep") ? head : head + " " + either(random, 0, 0);
    }

    private static String either(Random random, int depth, int parts) {
        String both = single(random, depth);
        if (parts < 2 && random.nextInt(4) == 0) {
            both += "&" + single(random, depth);
        }
        return parts < 2 && random.nextInt(4) == 0 ? both + "|" + either(random, depth, parts + 1) : both;
    }

    private static String single(Random random, int depth) {
        int way = depth >= 4 ? 9 : random.nextInt(10);
        if (way == 0) {
            return "!" + single(random, depth + 1);
        }
        if (way == 1) {
            return "(" + either(random, depth + 1, 0) + ")";
        }
        char letter = "sssssslip".charAt(random.nextInt(9));
        int n = letter == 'l' ? random.nextInt(18) : letter == 's' ? random.nextInt(10) : random.nextInt(7);
        n = random.nextInt(30) == 0 ? 10 + random.nextInt(90) : n;
        return "" + letter + "<=>".charAt(random.nextInt(3)) + n;
    }
}
