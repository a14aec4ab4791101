import java.util.ArrayList;
import java.util.List;
import java.util.Random;

/** Texts of cities by chance, good ones and spoilt ones; the same for the same seed. */
final class Towns {
    private final Random random;
    private static final String[] SIGNS = {"<", ">", "="};
    private static final String[] FACTS = {"minute", "sort", "far", "first", "second"};
    private static final String[] STRAY = {";", "(", ")", "[", "]", "not", "all", "or", "and", "min", "max", ",",
        "+", "-", "*", "/", "<", "=", "7", "12345", "0", "999", "1000", "10000", "a", "abcdefg", "corner", "lane", "saint",
        "but", "rain", "balcony", "at", "parish", "A", "%", "x", "~", "minute", "far", "b1", "1b", "\t"};

    Towns(Random random) {
        this.random = random;
    }

    int below(int n) {
        return random.nextInt(n);
    }

    private int between(int low, int high) {
        return low + random.nextInt(high - low + 1);
    }

    private String name(List<String> taken) {
        for (;;) {
            StringBuilder name = new StringBuilder();
            int length = below(4) == 0 ? 6 : between(1, 3);
            for (int i = 0; i < length; i++) {
                name.append((char) ('a' + below(26)));
            }
            if (!taken.contains(name.toString()) && !Oracle.Parser.OWN.contains(name.toString())) {
                taken.add(name.toString());
                return name.toString();
            }
        }
    }

    /** A city with as many saints as told, of a kind that has routes more often than not. */
    List<String> statements(int saints) {
        List<String> names = new ArrayList<>();
        List<String> told = new ArrayList<>();
        boolean dense = below(2) == 0;
        int corners = dense ? between(5, 10) : between(saints > 0 ? 1 : 0, below(3) == 0 ? 10 : 6);
        int parishes = dense ? between(2, 5) : between(1, below(3) == 0 ? 9 : 4);
        List<String> cornerNames = new ArrayList<>();
        for (int i = 0; i < corners; i++) {
            cornerNames.add(name(names));
            told.add("corner " + cornerNames.get(i) + " parish " + (dense ? i % parishes + 1 : between(1, parishes)));
        }
        int lanes = corners < 2 ? 0 : between(dense ? 10 : 0, 16);
        boolean[] joined = new boolean[100];
        int longest = below(3) == 0 ? 9 : 3;
        int thick = below(2) == 0 ? 9 : 3;
        for (int i = 0, laid = 0; i < 60 && laid < lanes; i++) {
            int a = i < corners - 1 ? i : below(corners);
            int b = i < corners - 1 ? i + 1 : below(corners);
            if (a != b && !joined[a * 10 + b]) {
                joined[a * 10 + b] = true;
                joined[b * 10 + a] = true;
                laid++;
                told.add("lane " + cornerNames.get(a) + " " + cornerNames.get(b) + " long " + between(1, longest)
                        + " walls " + between(0, thick));
            }
        }
        int loudest = below(dense ? 9 : 3) == 0 ? 20 : below(2) == 0 ? 4 : 0;
        for (int i = 0; i < saints; i++) {
            told.add("saint " + name(names) + " at " + cornerNames.get(below(corners)) + " pace " + between(1, 5)
                    + " loud " + between(0, loudest) + " petals " + between(0, below(3) == 0 ? 99 : 12));
        }
        for (int i = below(corners > 0 ? 5 : 1); i > 0; i--) {
            int from = below(4) == 0 ? between(0, 999) : between(0, 20);
            told.add("balcony at " + cornerNames.get(below(corners)) + " from " + from + " to "
                    + between(from, Math.min(999, from + 30)) + " worth " + between(1, 99));
        }
        for (int i = below(7); i > 0; i--) {
            told.add("but " + test(0));
        }
        for (int i = below(3); i > 0; i--) {
            told.add("rain " + (below(4) == 0 ? between(0, 999) : between(0, 60)));
        }
        return told;
    }

    /** A small city in which saints have some routes each and are in one another's way now and then. */
    List<String> narrow(int saints) {
        List<String> told = new ArrayList<>();
        int corners = between(3, 6);
        int parishes = between(2, 3);
        for (int i = 0; i < corners; i++) {
            told.add("corner " + (char) ('p' + i) + " parish " + (i % parishes + 1));
        }
        int size = between(1, 4);
        for (int a = 0; a < corners; a++) {
            for (int b = a + 1; b < corners; b++) {
                if (b == a + 1 || below(3) > 0) {
                    told.add("lane " + (char) ('p' + b) + " " + (char) ('p' + a) + " long " + between(1, size)
                            + " walls " + between(0, 3));
                }
            }
        }
        int loudest = below(3);
        for (int i = 0; i < saints; i++) {
            told.add("saint s" + (char) ('a' + i) + " at " + (char) ('p' + (below(3) > 0 ? i % corners : below(corners)))
                    + " pace " + between(1, 3) + " loud " + below(loudest + 1) + " petals " + below(below(2) == 0 ? 3 : 20));
        }
        for (int i = below(4); i > 0; i--) {
            told.add("but " + (below(2) == 0 ? timed() : test(1)));
        }
        return told;
    }

    String join(List<String> statements) {
        StringBuilder text = new StringBuilder();
        for (String statement : statements) {
            text.append(statement).append(below(9) == 0 ? "\n ;\n" : ";");
        }
        return text.toString();
    }

    /** The same text with a token lost, doubled, changed for another, or cut somewhere. */
    String spoil(String text) {
        if (text.isEmpty()) {
            return STRAY[below(STRAY.length)];
        }
        int at = below(text.length());
        int to = at;
        while (to < text.length() && text.charAt(to) != ' ' && text.charAt(to) != ';') {
            to++;
        }
        switch (below(6)) {
            case 0:
                return text.substring(0, at);
            case 1:
                return text.substring(0, at) + text.substring(to);
            case 2:
                return text.substring(0, at) + STRAY[below(STRAY.length)] + text.substring(to);
            case 3:
                return text.substring(0, at) + " " + STRAY[below(STRAY.length)] + " " + text.substring(at);
            case 4:
                return text.substring(0, at) + text.substring(Math.min(text.length(), at + 1));
            default:
                return text.substring(0, to) + text.substring(at);
        }
    }

    /** A text with more open at once, or more of a kind, than can be, or nearly so. */
    String crowd() {
        StringBuilder text = new StringBuilder("corner q parish 1; corner w parish 2;");
        switch (below(4)) {
            case 0:
                return text.append("but ").append(deep(between(5, 8))).append(";").toString();
            case 1:
                for (int i = between(60, 74); i > 0; i--) {
                    text.append(below(9) == 0 ? "rain 7 ;" : "rain 1;");
                }
                return text.append(below(2) == 0 ? "" : STRAY[below(STRAY.length)]).toString();
            case 2:
                for (int i = between(0, 9); i > 0; i--) {
                    text.append("corner a").append((char) ('a' + i)).append(" parish 3;");
                }
                for (int i = between(3, 12); i > 0; i--) {
                    text.append("balcony at w from 3 to 3 worth 1;");
                }
                return text.toString();
            default:
                for (int i = between(3, 5); i > 0; i--) {
                    text.append("saint s").append((char) ('a' + i)).append(" at q pace 1 loud 0 petals 0;");
                }
                for (int i = between(5, 7); i > 0; i--) {
                    text.append("but ").append(fact(2)).append(";");
                }
                return text.toString();
        }
    }

    /** A test in which so many stand open at once, with others ahead that are closed again. */
    private String deep(int open) {
        boolean sums = false;
        String head = "";
        String tail = "";
        for (int i = 0; i < open; i++) {
            sums |= below(3) == 0;
            if (sums) {
                int kind = below(4);
                head += kind == 0 ? "(1 + " : kind == 1 ? "min(3, " : kind == 2 ? "( (2) *" : "max (";
                tail = (kind == 3 ? ", (2))" : ")") + tail;
            } else if (below(2) == 0) {
                head += below(2) == 0 ? "not " : "not all and not ";
            } else {
                head += below(2) == 0 ? "[ " : "[ not [ all ] or ";
                tail = "]" + tail;
            }
        }
        int cut = 0;
        while (cut < tail.length() && tail.charAt(cut) != ']') {
            cut++;
        }
        return head + (sums ? "far" + tail.substring(0, cut) + " < 3" + tail.substring(cut) : "all" + tail);
    }

    String test(int depth) {
        StringBuilder text = new StringBuilder(fact(depth));
        for (int more = below(4) == 0 ? below(3) : 0; more > 0; more--) {
            text.append(below(2) == 0 ? " or " : " and ").append(fact(depth));
        }
        return text.toString();
    }

    private String fact(int depth) {
        int kind = below(depth < 3 ? 8 : 5);
        if (kind == 5) {
            return "not " + fact(depth + 1);
        }
        if (kind == 6) {
            return "[" + test(depth + 1) + "]";
        }
        if (kind == 7) {
            return below(3) == 0 ? "all" : "sort = " + below(2);
        }
        return kind == 0 ? simple() : sum(depth) + " " + SIGNS[below(3)] + sum(depth);
    }

    /** What holds in some minutes and not in others, late in the night too. */
    private String timed() {
        int every = between(2, 90);
        return below(2) == 0 ? "minute " + SIGNS[below(2)] + " " + below(below(2) == 0 ? 20 : 200)
                : "minute - minute / " + every + " * " + every + " " + SIGNS[below(2)] + " " + below(every);
    }

    private String simple() {
        return below(3) == 0 ? timed() : FACTS[below(5)] + SIGNS[below(3)] + below(below(2) == 0 ? 4 : 30);
    }

    private String sum(int depth) {
        StringBuilder text = new StringBuilder(part(depth));
        for (int more = below(3) == 0 ? below(4) : 0; more > 0; more--) {
            text.append(" ").append("+-*/".charAt(below(4))).append(" ").append(part(depth));
        }
        return text.toString();
    }

    private String part(int depth) {
        int kind = below(depth < 3 ? 9 : 6);
        if (kind < 3) {
            return FACTS[below(5)];
        }
        if (kind < 6) {
            return "" + (below(6) == 0 ? below(10000) : below(3) == 0 ? 9999 : below(20));
        }
        if (kind == 6) {
            return "(" + sum(depth + 1) + ")";
        }
        return (kind == 7 ? "min(" : "max (") + sum(depth + 1) + "," + sum(depth + 1) + ")";
    }
}
