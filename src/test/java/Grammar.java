import java.util.ArrayDeque;
import java.util.ArrayList;
import java.util.Deque;
import java.util.List;

/** What a VALLEY is, told by reducing texts, and the FAULT, told by trying what could follow. */
final class Grammar {
    private static final List<String> ENDINGS = endings();

    private Grammar() {
    }

    static boolean isValley(String text) {
        String[] clauses = text.split(";", -1);
        if (clauses.length > 10) {
            return false;
        }
        for (String clause : clauses) {
            if (!isClause(clause)) {
                return false;
            }
        }
        return true;
    }

    /** The place of the first byte with which no VALLEY begins so; -1: it is one. */
    static int fault(String text) {
        if (isValley(text)) {
            return -1;
        }
        for (int f = 0; f < text.length(); f++) {
            if (!beginsOne(text.substring(0, f + 1))) {
                return f;
            }
        }
        return text.length();
    }

    private static boolean beginsOne(String start) {
        for (String ending : ENDINGS) {
            if (isValley(start + ending)) {
                return true;
            }
        }
        return false;
    }

    private static List<String> endings() {
        List<String> list = new ArrayList<>();
        for (String clause : new String[] {"fall 1 s=1", "bring 1 s=1", "cost 1 s=1", "pay 1", "keep 1", "s=1", "l=1"}) {
            for (int from = 0; from <= clause.length(); from++) {
                for (int open = 0; open <= 4; open++) {
                    list.add(clause.substring(from) + ")".repeat(open));
                }
            }
        }
        return list;
    }

    private static boolean isClause(String clause) {
        if (clause.matches("(pay|keep) [0-9]{1,2}")) {
            return true;
        }
        if (!clause.matches("(fall|bring|cost) [0-9]{1,2} [^ ]+")) {
            return false;
        }
        String e = clause.substring(clause.indexOf(' ', clause.indexOf(' ') + 1) + 1);
        return e.matches("[slip<=>0-9()!&|]+") && isNestedWell(e) && isReducible(e);
    }

    private static boolean isReducible(String e) {
        String was = "";
        String now = e.replaceAll("[slip][<=>][0-9]{1,2}", "T");
        while (!now.equals(was)) {
            was = now;
            now = now.replace("!T", "T").replace("(T)", "T").replace("T&T", "T").replace("T|T", "T");
        }
        return now.equals("T");
    }

    private static boolean isNestedWell(String e) {
        Deque<Character> open = new ArrayDeque<>();
        for (char c : e.toCharArray()) {
            if (c == '(' || c == '!') {
                if (open.size() >= 4) {
                    return false;
                }
                open.push(c);
            } else if (c == '&' || c == '|') {
                closeNots(open);
            } else if (c == ')') {
                closeNots(open);
                if (open.isEmpty()) {
                    return false;
                }
                open.pop();
            }
        }
        return true;
    }

    /** A ! is over where its F is: ahead of what joins or closes. */
    private static void closeNots(Deque<Character> open) {
        while (!open.isEmpty() && open.peek() == '!') {
            open.pop();
        }
    }
}
