import java.util.ArrayList;
import java.util.Arrays;
import java.util.HashSet;
import java.util.List;
import java.util.Random;
import java.util.Set;

/** Random texts with slips in them: their FAULTS beside those that a plain automaton over the TOKENS finds. */
public final class FaultTest {
    private static final List<String> WORDS = Arrays.asList(("house spare both lets quarrel rent late seed if then else hour day waited "
        + "temper other which inside outside keys").split(" "));
    private static final List<String> SIGNS = Arrays.asList("; = + - * / < ( )".split(" "));

    private final String text;
    private final List<String> kinds = new ArrayList<>();
    private final List<String> tokens = new ArrayList<>();
    private final List<Integer> places = new ArrayList<>();

    private FaultTest(String text) {
        this.text = text;
        int at = 0;
        while (at < text.length()) {
            char c = text.charAt(at);
            if (" \t\r\n".indexOf(c) >= 0) {
                at++;
                continue;
            }
            int end = at + 1;
            boolean letter = c >= 'a' && c <= 'z', digit = c >= '0' && c <= '9';
            while (end < text.length() && (letter && text.charAt(end) >= 'a' && text.charAt(end) <= 'z'
                || digit && text.charAt(end) >= '0' && text.charAt(end) <= '9')) {
                end++;
            }
            String token = text.substring(at, end);
            tokens.add(token);
            places.add(at);
            kinds.add(WORDS.contains(token) || SIGNS.contains(token) ? token : letter && token.length() < 9 ? "NAME"
                : digit && token.length() < 5 ? "INT" : "BAD");
            at = end;
        }
        tokens.add("");
        kinds.add("END");
        places.add(text.length());
    }

    /** The FAULT's number and place. */
    private int[] fault() {
        int[] form = formFault();
        return form[0] != 0 ? form : senseFault();
    }

    private int[] formFault() {
        List<String> next = new ArrayList<>();
        int houses = 0, spares = 0, ifs = 0, open = 0;
        String part = "";
        boolean unit = false, begins = false;
        for (int i = 0; ; i++) {
            String kind = kinds.get(i);
            int[] syntax = {1, places.get(i)};
            int[] room = {2, places.get(i)};
            boolean full = i >= 400;
            if (!next.isEmpty()) {
                if (!kind.equals(next.remove(0))) return syntax;
                if (kind.equals("=")) {
                    part = "last";
                    unit = true;
                    begins = true;
                    ifs = 0;
                }
            } else if (part.isEmpty()) {
                if (kind.equals("END")) return new int[] {0, -1};
                switch (kind) {
                    case "house" -> next.addAll(Arrays.asList("NAME", "INT", "INT", "INT", ";"));
                    case "spare" -> next.addAll(Arrays.asList("NAME", "NAME", ";"));
                    case "both" -> next.addAll(Arrays.asList("NAME", ";"));
                    case "seed" -> next.addAll(Arrays.asList("INT", ";"));
                    case "lets", "quarrel", "rent", "late" -> next.add("=");
                    default -> { return syntax; }
                }
                if (kind.equals("house") && ++houses > 8 || kind.equals("spare") && ++spares > 6) return room;
            } else if (unit) {
                if (kind.equals("INT") || WORDS.indexOf(kind) > 10) {
                    unit = false;
                } else if (kind.equals("(")) {
                    if (++open > 6) return room;
                } else if (kind.equals("if") && begins) {
                    if (++ifs > 4) return room;
                    part = "<";
                } else {
                    return syntax;
                }
                begins = false;
            } else if ("+-*/".contains(kind)) {
                unit = true;
            } else if (open > 0) {
                if (!kind.equals(")")) return syntax;
                open--;
            } else if (part.equals("last")) {
                if (!kind.equals(";")) return syntax;
                part = "";
            } else {
                if (!kind.equals(part)) return syntax;
                part = part.equals("<") ? "then" : part.equals("then") ? "else" : "last";
                unit = true;
                begins = part.equals("last");
            }
            if (full) return room;
        }
    }

    private int[] senseFault() {
        Set<String> houses = new HashSet<>();
        Set<String> both = new HashSet<>();
        for (int i = 0; i < tokens.size(); i++) {
            String kind = kinds.get(i);
            if (kind.equals("house")) {
                if (!houses.add(tokens.get(i + 1))) return new int[] {3, places.get(i + 1)};
                for (int j = 2; j < 5; j++) {
                    if (Integer.parseInt(tokens.get(i + j)) > (j == 4 ? 9 : 23)) return new int[] {5, places.get(i + j)};
                }
            }
            if (kind.equals("spare") || kind.equals("both")) {
                for (int j = 1; kinds.get(i + j).equals("NAME"); j++) {
                    if (!houses.contains(tokens.get(i + j))) return new int[] {4, places.get(i + j)};
                }
                if (kind.equals("both") && !both.add(tokens.get(i + 1))) return new int[] {3, places.get(i + 1)};
            }
        }
        return new int[] {0, -1};
    }

    public static void main(String[] args) {
        int[] seen = new int[6];
        Random random = new Random(11);
        for (int run = 0; run < 20000; run++) {
            String text = randomText(random);
            if (text.length() > 2000) text = text.substring(0, 2000);
            int[] want = new FaultTest(text).fault();
            seen[want[0]]++;
            Calls.fault(text, want[0], want[1]);
        }
        for (int number = 0; number < 6; number++) {
            Calls.due("texts with fault " + number + " are many", seen[number] > 50, true);
        }
        Calls.end();
    }

    private static String randomText(Random random) {
        List<String> parts = new ArrayList<>();
        int tells = random.nextInt(4) == 0 ? 60 + random.nextInt(80) : random.nextInt(14);
        int names = 0;
        for (int i = 0; i < tells; i++) {
            int kind = random.nextInt(9);
            String some = "" + (char) ('a' + random.nextInt(Math.max(1, names) + (random.nextInt(20) == 0 ? 1 : 0)));
            int many = random.nextInt(30) == 0 ? 99 : 7;
            if (kind < 3 && names < many) {
                String name = random.nextInt(8) == 0 ? some : "" + (char) ('a' + names % 26);
                names++;
                parts.addAll(Arrays.asList("house", name, "" + random.nextInt(random.nextInt(6) == 0 ? 30 : 24),
                    "" + random.nextInt(24), "" + random.nextInt(random.nextInt(12) == 0 ? 12 : 10), ";"));
            } else if (kind == 3 && random.nextInt(3) == 0) {
                parts.addAll(Arrays.asList("spare", some, some, ";"));
            } else if (kind == 4 && random.nextInt(4) == 0) {
                parts.addAll(Arrays.asList("both", some, ";"));
            } else if (kind < 6) {
                law(parts, random);
            } else {
                parts.addAll(Arrays.asList("seed", "" + random.nextInt(10000), ";"));
            }
        }
        slip(parts, random);
        return join(parts, random);
    }

    private static void law(List<String> parts, Random random) {
        parts.add(WORDS.get(3 + random.nextInt(4)));
        parts.add("=");
        for (int i = random.nextInt(20) == 0 ? 5 : random.nextInt(4); i > 0; i--) {
            for (String word : new String[] {"if", "<", "then", "else"}) {
                parts.add(word);
                if (!word.equals("else")) sum(parts, random, 0);
            }
        }
        sum(parts, random, 0);
        parts.add(";");
    }

    private static void sum(List<String> parts, Random random, int deep) {
        for (int i = random.nextInt(3); i >= 0; i--) {
            if (deep < 8 && random.nextInt(deep == 0 ? 9 : 2) == 0) {
                parts.add("(");
                sum(parts, random, deep + 1);
                parts.add(")");
            } else {
                parts.add(random.nextBoolean() ? "" + random.nextInt(10000) : WORDS.get(11 + random.nextInt(9)));
            }
            if (i > 0) parts.add(SIGNS.get(2 + random.nextInt(4)));
        }
    }

    private static void slip(List<String> parts, Random random) {
        String[] odd = {"?", "abcdefghi", "abcdefgh", "12345", "A", "if", "else", "(", ")", "<", "house", "z", "7", ";", "", "=", "hour"};
        for (int i = random.nextInt(3); i > 0 && !parts.isEmpty(); i--) {
            int at = random.nextInt(parts.size());
            switch (random.nextInt(5)) {
                case 0 -> parts.remove(at);
                case 1 -> parts.add(at, odd[random.nextInt(odd.length)]);
                case 2 -> parts.set(at, odd[random.nextInt(odd.length)]);
                case 3 -> parts.subList(at, parts.size()).clear();
                default -> { }
            }
        }
    }

    private static String join(List<String> parts, Random random) {
        StringBuilder b = new StringBuilder();
        String blanks = " \t\r\n";
        boolean wide = random.nextInt(4) == 0;
        for (String part : parts) {
            char last = b.length() == 0 ? ';' : b.charAt(b.length() - 1);
            boolean joins = !part.isEmpty() && Character.isLetterOrDigit(part.charAt(0)) && Character.isLetterOrDigit(last);
            if (joins && random.nextInt(300) > 0 || wide && random.nextInt(3) == 0) b.append(blanks.charAt(random.nextInt(4)));
            b.append(part);
        }
        return b.toString();
    }
}
