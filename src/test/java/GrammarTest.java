import java.util.ArrayList;
import java.util.Arrays;
import java.util.HashMap;
import java.util.HashSet;
import java.util.List;
import java.util.Map;
import java.util.Random;
import java.util.Set;
import java.util.regex.Matcher;
import java.util.regex.Pattern;

/**
 * Terms 1, SYNTAX: "the first token with which no PROGRAM goes on". The document's grammar stands here as rules for an
 * Earley parser, which by its nature finds that token; scrambled programs are held against it.
 */
public final class GrammarTest {
    private static final String[] RULES = {
        "PROGRAM: CLASS | PROGRAM CLASS",
        "CLASS: class NAME { MEMBERS } | res class NAME { MEMBERS }",
        "MEMBERS: | MEMBERS MEMBER",
        "MEMBER: TYPE NAME ; | static TYPE NAME ; | static TYPE NAME = E ; | METHOD | static METHOD",
        "METHOD: GIVES NAME ( ) BLOCK | GIVES NAME ( PARAMETERS ) BLOCK",
        "GIVES: void | TYPE",
        "PARAMETERS: TYPE NAME | PARAMETERS , TYPE NAME",
        "TYPE: int | text | row | NAME",
        "BLOCK: { STATEMENTS }",
        "STATEMENTS: | STATEMENTS S",
        "S: BLOCK | TYPE NAME = E ; | if ( E ) S | if ( E ) S else S | while ( E ) S | return ; | return E ; | throw E ;"
            + " | try BLOCK catch ( NAME ) BLOCK | sync ( E ) BLOCK | E ; | E = E ;",
        "E: AND | E OR_SIGN AND",
        "AND: SAME | AND && SAME",
        "SAME: LESS | SAME == LESS | SAME != LESS",
        "LESS: SUM | LESS < SUM | LESS <= SUM | LESS > SUM | LESS >= SUM",
        "SUM: TERM | SUM + TERM | SUM - TERM",
        "TERM: U | TERM * U | TERM / U | TERM % U",
        "U: - U | ! U | spawn U | P",
        "P: NUMBER | STRING | null | this | NAME | NAME ARGS | ( E ) | new NAME ( ) | new row [ E ] | P . NAME | P . NAME ARGS | P [ E ]",
        "ARGS: ( ) | ( LIST )",
        "LIST: E | LIST , E"};
    private static final Set<String> WORDS = new HashSet<>(Arrays.asList(
        "catch class else if int new null res return row spawn static sync text this throw try void while".split(" ")));
    private static final String[] OTHERS = ("catch class else if int new null res return row spawn static sync text this throw try void while "
        + "( ) { } [ ] ; , . = == != < <= > >= + - * / % && || ! A x 7 \"s\"").split(" ");
    private static final Pattern TOKEN = Pattern.compile("[A-Za-z][A-Za-z0-9_]*|[0-9]+|\"[^\"]*\"|==|!=|<=|>=|&&|\\|\\||[-(){}\\[\\];,.=<>+*/%!]");
    private static final Map<String, List<String[]>> GRAMMAR = new HashMap<>();

    public static void main(String[] args) {
        int seeds = args.length > 0 ? Integer.parseInt(args[0]) : 150;
        int first = args.length > 1 ? Integer.parseInt(args[1]) : 1;
        for (String rule : RULES) {
            String name = rule.substring(0, rule.indexOf(':'));
            List<String[]> ways = new ArrayList<>();
            for (String way : rule.substring(rule.indexOf(':') + 1).split(" \\| | \\|$|^ \\|")) {
                String plain = way.trim();
                ways.add(plain.isEmpty() ? new String[0] : plain.split(" "));
            }
            GRAMMAR.put(name, ways);
        }
        for (int seed = first; seed < first + seeds; seed++) {
            Random random = new Random(seed);
            List<String> tokens = cut(new Weaver(seed).weave());
            // A short program is parsed fast, and has a fault as well as a long one.
            while (tokens.size() > 260) {
                tokens = tokens.subList(0, tokens.size() - 60);
            }
            compare(tokens, seed);
            for (int i = 0; i < 6; i++) {
                compare(scramble(tokens, random), seed);
            }
        }
        Kit.done();
    }

    private static List<String> cut(String text) {
        List<String> all = new ArrayList<>();
        Matcher matcher = TOKEN.matcher(text);
        while (matcher.find()) {
            all.add(matcher.group());
        }
        return all;
    }

    private static List<String> scramble(List<String> tokens, Random random) {
        List<String> all = new ArrayList<>(tokens);
        int changes = 1 + random.nextInt(2);
        for (int i = 0; i < changes; i++) {
            int at = random.nextInt(all.size());
            int way = random.nextInt(4);
            String other = OTHERS[random.nextInt(OTHERS.length)];
            if (way == 0) {
                all.remove(at);
            } else if (way == 1) {
                all.add(at, other);
            } else if (way == 2) {
                all.set(at, other);
            } else {
                all.set(at, all.get(random.nextInt(all.size())));
            }
        }
        return all;
    }

    private static void compare(List<String> tokens, int seed) {
        StringBuilder text = new StringBuilder();
        List<Integer> places = new ArrayList<>();
        for (String token : tokens) {
            places.add(text.length());
            text.append(token).append(' ');
        }
        places.add(text.length());
        if (text.length() > 2000 || isDeep(tokens)) {
            return;
        }
        int bad = firstBad(tokens);
        FrostHouse x = new FrostHouse();
        Kit.load(x, text.toString(), 1);
        int place = x.fault(0) == 1 ? x.fault(1) : -1;
        Kit.due("seed " + seed + ", the first bad token of " + text, place, bad < 0 ? -1 : places.get(bad));
    }

    /** Whether more than 20 might be open; such texts have tests of their own. */
    private static boolean isDeep(List<String> tokens) {
        int open = 0;
        int most = 0;
        int others = 0;
        for (String token : tokens) {
            open += token.equals("(") || token.equals("{") || token.equals("[") ? 1 : token.equals(")") || token.equals("}") || token.equals("]") ? -1 : 0;
            others = token.equals(";") || token.equals("}") ? 0
                : others + (token.equals("-") || token.equals("!") || token.equals("spawn") || token.equals("if") || token.equals("while") || token.equals("else") ? 1 : 0);
            most = Math.max(most, open + others);
        }
        return most > 20;
    }

    private static String kind(String token) {
        char c = token.charAt(0);
        if (Character.isLetter(c)) {
            return WORDS.contains(token) ? token : "NAME";
        }
        return Character.isDigit(c) ? "NUMBER" : c == '"' ? "STRING" : token.equals("||") ? "OR_SIGN" : token;
    }

    /** One way of a rule, how much of it is seen, and where it began. */
    private record Item(String name, String[] way, int seen, int from) {
        String next() {
            return seen < way.length ? way[seen] : null;
        }

        Item further() {
            return new Item(name, way, seen + 1, from);
        }
    }

    private static final class Row {
        final List<Item> items = new ArrayList<>();
        private final Set<String> known = new HashSet<>();

        void add(Item item) {
            if (known.add(item.name() + System.identityHashCode(item.way()) + "/" + item.seen() + "/" + item.from())) {
                items.add(item);
            }
        }
    }

    private static boolean canBeEmpty(String name) {
        return name.equals("MEMBERS") || name.equals("STATEMENTS");
    }

    /** The number of the first token with which no program goes on; as many as there are if it ends too early; -1 if it is a program. */
    private static int firstBad(List<String> tokens) {
        List<Row> rows = new ArrayList<>();
        rows.add(new Row());
        for (String[] way : GRAMMAR.get("PROGRAM")) {
            rows.get(0).add(new Item("PROGRAM", way, 0, 0));
        }
        for (int at = 0; at <= tokens.size(); at++) {
            Row row = rows.get(at);
            if (row.items.isEmpty()) {
                return at - 1;
            }
            Row further = new Row();
            String kind = at < tokens.size() ? kind(tokens.get(at)) : "";
            for (int i = 0; i < row.items.size(); i++) {
                Item item = row.items.get(i);
                String next = item.next();
                if (next == null) {
                    Row origin = rows.get(item.from());
                    for (int k = 0; k < origin.items.size(); k++) {
                        if (item.name().equals(origin.items.get(k).next())) {
                            row.add(origin.items.get(k).further());
                        }
                    }
                } else if (GRAMMAR.containsKey(next)) {
                    for (String[] way : GRAMMAR.get(next)) {
                        row.add(new Item(next, way, 0, at));
                    }
                    if (canBeEmpty(next)) {
                        row.add(item.further());
                    }
                } else if (next.equals(kind)) {
                    further.add(item.further());
                }
            }
            rows.add(further);
        }
        for (Item item : rows.get(tokens.size()).items) {
            if (item.name().equals("PROGRAM") && item.next() == null && item.from() == 0) {
                return -1;
            }
        }
        return tokens.size();
    }
}
