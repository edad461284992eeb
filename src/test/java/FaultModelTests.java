import java.util.ArrayDeque;
import java.util.ArrayList;
import java.util.Deque;
import java.util.HashMap;
import java.util.HashSet;
import java.util.List;
import java.util.Map;
import java.util.Random;
import java.util.Set;

/** Faults of random texts beside a second reading of the grammar: a pile of what is awaited (promises 4, 5, 26). */
public final class FaultModelTests {
    private static final Checks CHECKS = new Checks();
    private static final Set<String> OWN = Set.of("colour", "card", "strung", "s", "z", "pack", "twist",
        "weave", "on", "back", "still", "twice");

    private record Token(char kind, int at, String text) {
    }

    /** Words w, numbers n, marks m, the end e; what touches the word or number ahead of it is t. */
    private static List<Token> tokens(String text) {
        List<Token> all = new ArrayList<>();
        int at = 0;
        int behind = -1;
        while (at < text.length()) {
            char c = text.charAt(at);
            int from = at;
            if (c == ' ' || c == '\n') {
                at++;
                continue;
            }
            char kind = c >= 'a' && c <= 'z' ? 'w' : c >= '0' && c <= '9' ? 'n' : 'm';
            do {
                at++;
            } while (kind != 'm' && at < text.length()
                    && (kind == 'w' ? text.charAt(at) >= 'a' && text.charAt(at) <= 'z'
                        : text.charAt(at) >= '0' && text.charAt(at) <= '9'));
            boolean torn = from == behind && kind != 'm';
            all.add(new Token(torn ? 't' : kind, from, text.substring(from, at)));
            behind = kind == 'm' ? -1 : at;
        }
        all.add(new Token('e', text.length(), ""));
        return all;
    }

    /** What a text still awaits lies on a pile, the next on top. */
    private abstract static class Reader {
        final Deque<String> awaited = new ArrayDeque<>();
        List<Token> tokens;
        int next = 0;
        int fault = 0;
        int place = -1;
        int open = 0;

        abstract void step(String top);

        void read(String text, String start) {
            tokens = tokens(text);
            awaited.push(start);
            while (fault == 0 && !awaited.isEmpty()) {
                String top = awaited.pop();
                if (top.length() == 1) {
                    if (token().text().equals(top)) {
                        next++;
                    } else {
                        fail(1, token().at());
                    }
                } else if (top.equals("end")) {
                    open--;
                } else {
                    step(top);
                }
            }
        }

        Token token() {
            return tokens.get(next);
        }

        boolean is(String word) {
            return token().kind() != 't' && token().text().equals(word);
        }

        void fail(int what, int where) {
            if (fault == 0) {
                fault = what;
                place = where;
            }
        }

        /** The first is awaited next. */
        void await(String... parts) {
            for (int i = parts.length - 1; i >= 0; i--) {
                awaited.push(parts[i]);
            }
        }

        void opens(int most, String... parts) {
            if (open == most) {
                fail(4, token().at());
            }
            open++;
            next++;
            awaited.push("end");
            await(parts);
        }
    }

    private static final class LoomReader extends Reader {
        final Map<String, String> kinds = new HashMap<>();
        final Map<String, Integer> many = new HashMap<>();
        final Set<String> inPack = new HashSet<>();
        final Deque<Integer> marks = new ArrayDeque<>();
        int statements = 0;
        int letters = 0;

        boolean named() {
            return token().kind() == 'w' && !OWN.contains(token().text());
        }

        String name() {
            if (!named()) {
                fail(1, token().at());
            } else if (token().text().length() > 6) {
                fail(1, token().at() + 6);
            }
            return token().text();
        }

        void given(String kind) {
            String name = name();
            if (fault == 0 && kinds.containsKey(name)) {
                fail(3, token().at());
            }
            kinds.put(name, kind);
            next++;
        }

        void asked(String kind) {
            String name = name();
            if (fault == 0 && !kind.equals(kinds.get(name))) {
                fail(3, token().at());
            }
            if (fault == 0 && kind.equals("card") && !inPack.add(name)) {
                fail(3, token().at());
            }
            next++;
        }

        void statement() {
            if (token().kind() == 'e') {
                return;
            }
            String word = token().kind() == 't' ? "" : token().text();
            int most = Map.of("colour", 6, "card", 8, "pack", 6, "twist", 999, "weave", 1)
                    .getOrDefault(word, 0);
            if (statements == 70) {
                fail(5, token().at());
            } else if (most == 0) {
                fail(1, token().at());
            } else if (many.merge(word, 1, Integer::sum) > most) {
                fail(5, token().at());
            }
            statements++;
            next++;
            await("a " + word, ";", "statement");
        }

        void turn() {
            if (is("on") || is("back")) {
                letters++;
                next++;
                await("pack?");
            } else if (is("still")) {
                letters++;
                next++;
                await("pack");
            } else if (is("twice")) {
                marks.push(letters);
                opens(7, "turn", "again");
            } else if (is("[")) {
                opens(7, "turn", "turns?", "]");
            } else {
                fail(1, token().at());
            }
        }

        boolean turnNext() {
            return is("on") || is("back") || is("still") || is("twice") || is("[");
        }

        void number() {
            if (token().kind() != 'n') {
                fail(1, token().at());
            } else if (token().text().length() > 4) {
                fail(1, token().at() + 4);
            } else if (Integer.parseInt(token().text()) < 1 || Integer.parseInt(token().text()) > 40) {
                fail(2, token().at());
            }
            next++;
        }

        @Override
        void step(String top) {
            switch (top) {
                case "statement" -> statement();
                case "a colour" -> given("colour");
                case "a card" -> {
                    given("card");
                    await("strung", "side", "colour", "colour", "colour", "colour");
                }
                case "strung" -> {
                    if (!is("strung")) {
                        fail(1, token().at());
                    }
                    next++;
                }
                case "side" -> {
                    if (!is("s") && !is("z")) {
                        fail(1, token().at());
                    }
                    next++;
                }
                case "colour" -> asked("colour");
                case "a pack" -> {
                    inPack.clear();
                    given("pack");
                    await("card", "card?");
                }
                case "card" -> asked("card");
                case "card?" -> {
                    if (named()) {
                        await("card", "card?");
                    }
                }
                case "a twist" -> number();
                case "a weave" -> {
                    marks.push(token().at());
                    await("turn", "told", "weave?");
                }
                case "weave?" -> {
                    if (turnNext()) {
                        await("a weave");
                    }
                }
                case "told" -> {
                    int at = marks.pop();
                    if (letters > 60) {
                        fail(5, at);
                    }
                }
                case "turn" -> turn();
                case "turns?" -> {
                    if (turnNext()) {
                        await("turn", "turns?");
                    }
                }
                case "again" -> letters += letters - marks.pop();
                case "pack" -> asked("pack");
                case "pack?" -> {
                    if (named()) {
                        await("pack");
                    }
                }
                default -> throw new IllegalStateException(top);
            }
        }
    }

    private static final class QuestionReader extends Reader {
        void more(String with, String part) {
            if (is(with)) {
                next++;
                await(part, part + with);
            }
        }

        void fact() {
            if (is("all")) {
                next++;
            } else if (is("not")) {
                opens(6, "fact");
            } else if (is("[")) {
                opens(6, "test", "]");
            } else {
                await("sum", "sign", "sum");
            }
        }

        void part() {
            if (token().kind() == 'n') {
                if (token().text().length() > 4) {
                    fail(1, token().at() + 4);
                }
                next++;
            } else if (is("row") || is("back") || is("still")) {
                next++;
            } else if (is("front") || is("behind") || is("slant") || is("twist")) {
                opens(6, "part");
            } else if (is("(")) {
                opens(6, "sum", ")");
            } else if (is("min") || is("max")) {
                next++;
                await("pair");
            } else {
                fail(1, token().at());
            }
        }

        @Override
        void step(String top) {
            switch (top) {
                case "question" -> {
                    boolean tests = is("first") || is("last") || is("often");
                    if (!tests && !is("total") && !is("most") && !is("least")) {
                        fail(1, token().at());
                    }
                    next++;
                    await(tests ? "test" : "sum", "nothing");
                }
                case "nothing" -> {
                    if (token().kind() != 'e') {
                        fail(1, token().at());
                    }
                }
                case "test" -> await("both", "bothor");
                case "bothor" -> more("or", "both");
                case "both" -> await("fact", "factand");
                case "factand" -> more("and", "fact");
                case "fact" -> fact();
                case "sign" -> {
                    if (!is("<") && !is(">") && !is("=")) {
                        fail(1, token().at());
                    }
                    next++;
                }
                case "sum" -> await("product", "product+-");
                case "product+-" -> {
                    if (is("+") || is("-")) {
                        next++;
                        await("product", "product+-");
                    }
                }
                case "product" -> await("part", "part*/");
                case "part*/" -> {
                    if (is("*") || is("/")) {
                        next++;
                        await("part", "part*/");
                    }
                }
                case "part" -> part();
                case "pair" -> {
                    if (!is("(")) {
                        fail(1, token().at());
                    }
                    opens(6, "sum", ",", "sum", ")");
                }
                default -> throw new IllegalStateException(top);
            }
        }
    }

    private static Reader loomReader(String text) {
        Reader reader = new LoomReader();
        reader.read(text, "statement");
        return reader;
    }

    private static Reader questionReader(String text) {
        Reader reader = new QuestionReader();
        reader.read(text, "question");
        return reader;
    }

    private static final String[] LOOM_PARTS = {"colour", "card", "strung", "s", "z", "pack", "twist",
        "weave", "on", "back", "still", "twice", "[", "]", ";", ";", ";", "a", "b", "c", "k", "l", "p", "q",
        "abcdef", "on", "[", "twice", "]", "on", "back", "twist 0", "twist 41", "twist 40"};
    private static final String[] QUESTION_PARTS = {"first", "last", "often", "total", "most", "least", "or",
        "and", "not", "all", "[", "]", "<", ">", "=", "+", "-", "*", "/", "row", "back", "still", "front",
        "behind", "slant", "twist", "(", ")", "min", "max", ",", "0", "7", "9999", "(", "[", "not", ")", "]"};
    private static final String[] ODD_PARTS = {"abcdefg", "abcdefghij", "colours", "x", "0", "41", "12345",
        "0040", "!", "\t", "A", "\u00e9", "on5", "5on", "a1", "1a", "all", "twist", "row", ";;", ","};
    private static final String[] LOOM_STARTS = {"", "", "weave ", "colour a;colour b;colour c;colour d;colour e;",
        "colour a;card k strung s a a a a;card l strung z a a a a;pack p k l;weave ",
        Checks.cards(7), Checks.cards(2) + "pack p ka;pack q kb;pack r ka;pack t ka;pack u kb;weave on ",
        Checks.many("twist 40;", 68), "colour a;card k strung s a a a a;pack p k;weave " + Checks.many("on ", 57),
        "weave " + Checks.many("on ", 30) + "twice [" + Checks.many("back ", 14),
        "weave twice [twice [twice [", "weave twice twice twice twice twice "};
    private static final String[] QUESTION_STARTS = {"", "often ", "total ", "often [not [not ", "total ((front (",
        "most min(max(1,(", "first not not not not "};

    // Of each fault: one in so many is kept.
    private static final int[] RARE = {1, 150, 2, 25, 3, 3};

    /** Grows a text part by part; most parts that are a fault at once are taken away again. */
    private static String grown(Random random, boolean loom) {
        String[] starts = loom ? LOOM_STARTS : QUESTION_STARTS;
        String[] parts = loom ? LOOM_PARTS : QUESTION_PARTS;
        String text = starts[random.nextInt(starts.length)];
        int many = random.nextInt(60);
        for (int i = 0; i < many && text.length() < 1500; i++) {
            boolean odd = random.nextInt(40) == 0;
            String part = odd ? ODD_PARTS[random.nextInt(ODD_PARTS.length)]
                    : loom && random.nextInt(30) == 0 ? "" + random.nextInt(50)
                    : parts[random.nextInt(parts.length)];
            String blank = random.nextInt(60) == 0 ? "" : random.nextInt(5) == 0 ? "\n" : " ";
            String longer = text + blank + part;
            Reader reader = loom ? loomReader(longer) : questionReader(longer);
            boolean bad = reader.fault != 0 && !(reader.fault == 1 && reader.place == longer.length());
            if (!bad) {
                text = longer;
            } else if (random.nextInt(RARE[reader.fault]) == 0) {
                return longer + " " + parts[random.nextInt(parts.length)];
            }
        }
        return random.nextInt(3) == 0 ? text + (random.nextBoolean() ? " " : ";") : text;
    }

    private static int compared(boolean loom, String text) {
        Reader reader = loom ? loomReader(text) : questionReader(text);
        QueenBelt x = new QueenBelt();
        if (loom) {
            CHECKS.due("text " + text, Checks.text(x, text) < 0, reader.fault != 0);
        } else {
            CHECKS.due("ask " + text, Checks.ask(x, text) == QueenBelt.NOTHING, reader.fault != 0);
        }
        CHECKS.due("fault of " + text, x.fault(0), reader.fault);
        CHECKS.due("place in " + text, x.fault(1), reader.place);
        return reader.fault;
    }

    /** Behind each word, number and mark of a text each other one, with and without a blank. */
    private static void eachPartBehindEach(boolean loom, String text) {
        String[][] lists = {loom ? LOOM_PARTS : QUESTION_PARTS, ODD_PARTS,
            OWN.toArray(new String[0]), {"", "f", "r", "kk"}};
        for (Token token : tokens(text)) {
            String ahead = text.substring(0, token.at());
            for (String[] parts : lists) {
                for (String part : parts) {
                    compared(loom, ahead + part);
                    compared(loom, ahead + " " + part + " ");
                    compared(loom, ahead.stripTrailing() + part + text.substring(token.at()));
                }
            }
            compared(loom, ahead + text.substring(token.at() + token.text().length()));
        }
    }

    private static final String[] LOOMS = {
        "colour a;colour b;card k strung s a b a b;card l strung z b b a a;pack p k;pack q k l;twist 9;"
            + "weave on p back q still p twice [on twice back [still q on]] twice twice on [[back p]];twist 3;",
        "weave " + Checks.many("on ", 56) + "[on] on twice on;"};
    private static final String[] QUESTIONS = {
        "first not [row < 3 or all] and front 0 = behind (1) or slant twist 2 > min(1, max(2, 3 + still)) * 4;",
        "total 1 + 2 * (3 - back) / row - front (twist (4));",
        "often not not not not [all and (1) = ((2))] or [[[[[[all]]]]]]"};

    public static void main(String[] args) {
        for (String text : LOOMS) {
            eachPartBehindEach(true, text);
        }
        for (String text : QUESTIONS) {
            eachPartBehindEach(false, text);
        }
        int[] faults = new int[6];
        Random random = new Random(1926);
        for (int i = 0; i < 24000; i++) {
            boolean loom = i % 2 == 0;
            faults[compared(loom, grown(random, loom))]++;
        }
        for (int fault = 0; fault < 6; fault++) {
            CHECKS.due("fault " + fault + " came often", faults[fault] > 200, true);
        }
        CHECKS.end();
    }
}
