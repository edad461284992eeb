import java.util.ArrayList;
import java.util.List;
import java.util.Random;

/** Random runs of calls beside a plain model that replays and tries all (promises 1 to 29). */
public final class OracleTests {
    private static final Checks CHECKS = new Checks();
    private static final String[] OWN = {"colour", "card", "strung", "s", "z", "pack", "twist",
        "weave", "on", "back", "still", "twice"};

    /** The belt as plainly as it goes: all is replayed from the rows of turns. */
    private static final class Model {
        final List<String> colours = new ArrayList<>();
        final List<String> cards = new ArrayList<>();
        final List<String> packs = new ArrayList<>();
        final List<boolean[]> packCards = new ArrayList<>();
        final List<int[]> letters = new ArrayList<>();
        int statements = 0;
        int limit = 40;
        int stopped = -1;
        List<int[]> threads = new ArrayList<>();
        List<Boolean> strungZ = new ArrayList<>();
        List<int[]> rows = new ArrayList<>();
        int[][] front = new int[0][];
        int[][] behind = new int[0][];
        final List<Runnable> takeBack = new ArrayList<>();

        int[] rowOf(int how, int pack) {
            int[] row = new int[cards.size()];
            for (int c = 0; c < row.length; c++) {
                boolean in = pack < 0 || packCards.get(pack)[c];
                row[c] = how == 2 ? (in ? 0 : 1) : how == 0 ? (in ? 1 : 2) : (in ? 2 : 1);
            }
            return row;
        }

        int twist(int row, int card) {
            int t = 0;
            for (int r = 0; r <= row; r++) {
                t += rows.get(r)[card] == 1 ? 1 : rows.get(r)[card] == 2 ? -1 : 0;
            }
            return t;
        }

        boolean weave(int[] row) {
            if (rows.size() == 60) {
                return false;
            }
            rows.add(row);
            for (int c = 0; c < cards.size(); c++) {
                if (Math.abs(twist(rows.size() - 1, c)) > limit) {
                    rows.remove(rows.size() - 1);
                    return false;
                }
            }
            return true;
        }

        int corner(int row, int card) {
            return ((twist(row, card) % 4) + 4) % 4;
        }

        int colour(int row, int card, boolean inBack) {
            return threads.get(card)[(corner(row, card) + (inBack ? 2 : 0)) % 4];
        }

        int slant(int row, int card) {
            int turn = rows.get(row)[card];
            return turn == 0 ? 0 : (turn == 1) != strungZ.get(card) ? 1 : 2;
        }

        void keep(Runnable back) {
            takeBack.add(back);
            if (takeBack.size() > 20) {
                takeBack.remove(0);
            }
        }

        int rhyme() {
            for (int p = 1; p <= rows.size(); p++) {
                boolean good = rows.size() % p == 0;
                for (int r = 0; good && r < rows.size(); r++) {
                    good = java.util.Arrays.equals(rows.get(r), rows.get(r % p));
                }
                if (good) {
                    return p;
                }
            }
            return 0;
        }

        int joins() {
            for (int n = 1; ; n++) {
                boolean home = true;
                for (int c = 0; c < cards.size(); c++) {
                    home = home && n * twist(rows.size() - 1, c) % 4 == 0;
                }
                if (home) {
                    return n;
                }
            }
        }

        int left() {
            int all = 0;
            for (int c = 0; c < cards.size(); c++) {
                all += Math.abs(twist(rows.size() - 1, c));
            }
            return all;
        }

        /** Whether these turns (bit 1 on, 0 back) are a way for the first n rows of the strip. */
        boolean isWay(int card, int corner, int turns, int n, boolean both) {
            int t = 0;
            for (int r = 0; r < n; r++) {
                t += (turns >> r & 1) == 1 ? 1 : -1;
                int up = ((corner + t) % 4 + 4) % 4;
                if (Math.abs(t) > limit
                        || front[r][card] > 0 && threads.get(card)[up] != front[r][card] - 1
                        || both && behind[r][card] > 0
                            && threads.get(card)[(up + 2) % 4] != behind[r][card] - 1) {
                    return false;
                }
            }
            return true;
        }

        List<int[]> ways(int card, int corner, int n, boolean both) {
            List<int[]> all = new ArrayList<>();
            for (int c = 0; c < 4; c++) {
                for (int turns = 0; (corner < 0 || corner == c) && turns < 1 << n; turns++) {
                    if (isWay(card, c, turns, n, both)) {
                        all.add(new int[] {c, turns});
                    }
                }
            }
            return all;
        }

        int woven(int card, int corner, int what) {
            int n = front.length;
            List<int[]> all = ways(card, corner, n, false);
            if (what == 0) {
                return all.size();
            }
            int fewest = -1;
            int flat = 0;
            for (int[] way : all) {
                int backs = n - Integer.bitCount(way[1]);
                fewest = fewest < 0 || backs < fewest ? backs : fewest;
                flat = 2 * backs == n ? 1 : flat;
            }
            return what == 1 ? fewest : flat;
        }

        int barredRow(int card) {
            for (int n = 1; n <= front.length; n++) {
                if (ways(card, -1, n, false).isEmpty()) {
                    return n - 1;
                }
            }
            return -1;
        }

        int barred() {
            for (int c = 0; c < cards.size(); c++) {
                if (barredRow(c) >= 0) {
                    return c;
                }
            }
            return -1;
        }

        /** States: the rows turned on by all so far, and those by any. */
        int apart() {
            if (front.length == 0 || front.length > 6 || barred() >= 0) {
                return -1;
            }
            boolean[][] states = new boolean[64][64];
            states[63][0] = true;
            for (int c = 0; c < cards.size(); c++) {
                boolean[][] next = new boolean[64][64];
                for (int[] way : ways(c, -1, front.length, false)) {
                    for (int i = 0; i < 4096; i++) {
                        if (states[i >> 6][i & 63]) {
                            next[i >> 6 & way[1]][i & 63 | way[1]] = true;
                        }
                    }
                }
                states = next;
            }
            int least = 99;
            for (int i = 0; i < 4096; i++) {
                if (states[i >> 6][i & 63]) {
                    least = Math.min(least, Integer.bitCount((i >> 6 ^ i & 63)
                            & (1 << front.length) - 1));
                }
            }
            return least;
        }

        int nearest(int card) {
            int most = 0;
            for (int turns = 0; turns < 1 << front.length; turns++) {
                int t = 0;
                int right = 0;
                boolean can = true;
                for (int r = 0; r < front.length; r++) {
                    t += (turns >> r & 1) == 1 ? 1 : -1;
                    can = can && Math.abs(t) <= limit;
                    right += threads.get(card)[(t % 4 + 4) % 4] == front[r][card] - 1 ? 1 : 0;
                }
                most = can ? Math.max(most, right) : most;
            }
            return most;
        }

        boolean looksAs(int row) {
            for (int c = 0; c < cards.size(); c++) {
                if (front[row][c] > 0 && colour(row, c, false) != front[row][c] - 1) {
                    return false;
                }
            }
            return true;
        }

        List<Integer> wrongTurns() {
            List<Integer> all = new ArrayList<>();
            for (int c = 0; c < cards.size(); c++) {
                for (int r = 0; r < front.length; r++) {
                    int[] row = rows.get(r);
                    if (row[c] == 0) {
                        continue;
                    }
                    row[c] = 3 - row[c];
                    boolean alike = true;
                    for (int i = 0; i < front.length; i++) {
                        alike = alike && looksAs(i);
                    }
                    row[c] = 3 - row[c];
                    if (alike) {
                        all.add(100 * c + r);
                    }
                }
            }
            return all;
        }

        int mend() {
            int r = 0;
            while (r < front.length && r < rows.size() && looksAs(r)) {
                r++;
            }
            return rows.size() - r;
        }

        int sure(int card, int row) {
            boolean on = true;
            boolean back = true;
            List<int[]> all = ways(card, -1, front.length, false);
            for (int[] way : all) {
                on = on && (way[1] >> row & 1) == 1;
                back = back && (way[1] >> row & 1) == 0;
            }
            return all.isEmpty() ? -1 : on ? 1 : back ? 2 : 0;
        }

        int[] image() {
            List<Integer> all = new ArrayList<>();
            all.add(rows.size());
            for (int c = 0; c < cards.size(); c++) {
                all.add(strungZ.get(c) ? 1 : 0);
                for (int colour : threads.get(c)) {
                    all.add(colour);
                }
            }
            for (int[] row : rows) {
                for (int turn : row) {
                    all.add(turn);
                }
            }
            int[] bytes = new int[all.size()];
            for (int i = 0; i < bytes.length; i++) {
                bytes[i] = all.get(i);
            }
            return Checks.summed(bytes);
        }
    }

    /** Writes a loom's text and what it means side by side. */
    private static final class Writer {
        final Random random;
        final StringBuilder text = new StringBuilder();
        final Model model = new Model();
        boolean lastTight = false;

        Writer(Random random) {
            this.random = random;
        }

        void say(String part) {
            boolean tight = Character.isLetterOrDigit(part.charAt(0));
            int blanks = random.nextInt(8) == 0 ? 2 : lastTight && tight ? 1 : random.nextInt(2);
            for (int i = 0; i < blanks; i++) {
                text.append(random.nextInt(6) == 0 ? '\n' : ' ');
            }
            text.append(part);
            lastTight = tight;
        }

        String freshName() {
            while (true) {
                StringBuilder name = new StringBuilder();
                int n = random.nextInt(10) == 0 ? 6 : 1 + random.nextInt(2);
                for (int i = 0; i < n; i++) {
                    name.append((char) ('a' + random.nextInt(26)));
                }
                String one = name.toString();
                if (!List.of(OWN).contains(one) && !model.colours.contains(one)
                        && !model.cards.contains(one) && !model.packs.contains(one)) {
                    return one;
                }
            }
        }

        void colour() {
            String name = freshName();
            say("colour");
            say(name);
            model.colours.add(name);
        }

        void card() {
            String name = freshName();
            boolean z = random.nextBoolean();
            int[] threads = new int[4];
            say("card");
            say(name);
            say("strung");
            say(z ? "z" : "s");
            for (int i = 0; i < 4; i++) {
                threads[i] = random.nextInt(Math.min(model.colours.size(),
                        random.nextInt(3) == 0 ? 6 : 2));
                say(model.colours.get(threads[i]));
            }
            model.cards.add(name);
            model.strungZ.add(z);
            model.threads.add(threads);
        }

        void pack() {
            String name = freshName();
            boolean[] in = new boolean[8];
            say("pack");
            say(name);
            int n = 1 + random.nextInt(model.cards.size());
            for (int i = 0; i < n; i++) {
                int c = random.nextInt(model.cards.size());
                if (!in[c]) {
                    in[c] = true;
                    say(model.cards.get(c));
                }
            }
            model.packs.add(name);
            model.packCards.add(in);
        }

        void twist() {
            int n = random.nextInt(3) == 0 ? 1 + random.nextInt(4) : 1 + random.nextInt(40);
            say("twist");
            say(random.nextInt(5) == 0 ? "00" + n : "" + n);
            model.limit = n;
        }

        List<int[]> turn(int open) {
            List<int[]> all = new ArrayList<>();
            int kind = random.nextInt(open < 7 ? 9 : 6);
            if (kind < 6) {
                int how = random.nextInt(model.packs.isEmpty() ? 2 : 3);
                int pack = how == 2 || !model.packs.isEmpty() && random.nextBoolean()
                        ? random.nextInt(model.packs.size()) : -1;
                say(how == 0 ? "on" : how == 1 ? "back" : "still");
                if (pack >= 0) {
                    say(model.packs.get(pack));
                }
                all.add(new int[] {how, pack});
            } else if (kind < 8) {
                say("twice");
                all.addAll(turn(open + 1));
                all.addAll(all);
            } else {
                say("[");
                for (int i = random.nextInt(3); i >= 0; i--) {
                    all.addAll(turn(open + 1));
                }
                say("]");
            }
            return all;
        }

        /** False when there came too many letters. */
        boolean weave() {
            say("weave");
            for (int i = random.nextInt(25); i >= 0; i--) {
                model.letters.addAll(turn(0));
                if (model.letters.size() > 60) {
                    return false;
                }
            }
            return true;
        }

        boolean write() {
            boolean woven = false;
            int colours = random.nextInt(20) == 0 ? 0 : 1 + random.nextInt(6);
            for (int i = 0; i < colours; i++) {
                colour();
                close();
            }
            int cards = colours == 0 || random.nextInt(20) == 0 ? 0 : 1 + random.nextInt(8);
            int packs = cards == 0 ? 0 : random.nextInt(4);
            while (model.cards.size() < cards || model.packs.size() < packs
                    || random.nextInt(3) > 0) {
                int kind = random.nextInt(5);
                if (kind == 0 && model.cards.size() < cards || kind == 1
                        && model.cards.size() < cards) {
                    card();
                } else if (kind == 2 && model.packs.size() < packs && !model.cards.isEmpty()) {
                    pack();
                } else if (kind == 3 && random.nextInt(4) == 0 && model.statements < 60) {
                    twist();
                } else if (kind == 4 && !woven && random.nextInt(3) == 0) {
                    woven = true;
                    if (!weave()) {
                        return false;
                    }
                } else {
                    continue;
                }
                close();
            }
            return text.length() <= 1600;
        }

        void close() {
            say(";");
            model.statements++;
        }

        Model done() {
            for (int i = 0; i < model.letters.size(); i++) {
                int[] letter = model.letters.get(i);
                if (!model.weave(model.rowOf(letter[0], letter[1]))) {
                    model.stopped = i;
                    break;
                }
            }
            return model;
        }
    }

    private static Model freshModel(QueenBelt x, Random random) {
        while (true) {
            Writer writer = new Writer(random);
            if (!writer.write()) {
                continue;
            }
            int told = Checks.text(x, writer.text.toString());
            CHECKS.due("text " + writer.text, told, writer.model.statements);
            CHECKS.due("fault", x.fault(0), 0);
            CHECKS.due("place", x.fault(1), -1);
            return writer.done();
        }
    }

    private static void seeLoom(QueenBelt x, Model m) {
        int last = m.rows.size() - 1;
        int[] loom = {m.colours.size(), m.cards.size(), m.packs.size(), m.limit, m.letters.size(),
            m.rows.size(), m.stopped, m.left(), m.rhyme(), m.joins(), m.takeBack.size(),
            m.front.length, m.behind.length};
        for (int i = -1; i <= 13; i++) {
            CHECKS.due("loom " + i, x.loom(i), i < 0 || i > 12 ? -1 : loom[i]);
        }
        for (int c = 0; c < m.cards.size(); c++) {
            for (int i = 0; i < 4; i++) {
                CHECKS.due("thread", x.card(c, i), m.threads.get(c)[i]);
            }
            int backs = 0;
            for (int[] row : m.rows) {
                backs += row[c] == 2 ? 1 : 0;
            }
            CHECKS.due("side", x.card(c, 4), m.strungZ.get(c) ? 1 : 0);
            CHECKS.due("corner", x.card(c, 5), m.corner(last, c));
            CHECKS.due("twist", x.card(c, 6), m.twist(last, c) + 100);
            CHECKS.due("backs", x.card(c, 7), backs);
        }
        CHECKS.due("no card", x.card(m.cards.size(), 0), -1);
    }

    private static void seeNames(QueenBelt x, Model m) {
        List<List<String>> kinds = List.of(m.colours, m.cards, m.packs);
        for (int kind = 0; kind < 3; kind++) {
            List<String> names = kinds.get(kind);
            for (int i = 0; i < names.size(); i++) {
                for (int k = 0; k < 6; k++) {
                    int want = k < names.get(i).length() ? names.get(i).charAt(k) - 'a' + 1 : 0;
                    CHECKS.due("letter of " + names.get(i), x.letter(kind, i, k), want);
                }
            }
            CHECKS.due("no name", x.letter(kind, names.size(), 0), -1);
        }
        for (int p = 0; p < m.packs.size(); p++) {
            for (int c = 0; c < m.cards.size(); c++) {
                CHECKS.due("pack", x.pack(p, c), m.packCards.get(p)[c] ? 1 : 0);
            }
        }
    }

    private static void seeBelt(QueenBelt x, Model m) {
        int[][] shown = new int[2][6];
        for (int r = 0; r < m.rows.size(); r++) {
            for (int c = 0; c < m.cards.size(); c++) {
                shown[0][m.colour(r, c, false)]++;
                shown[1][m.colour(r, c, true)]++;
                CHECKS.due("front", x.belt(r, c, 0), m.colour(r, c, false));
                CHECKS.due("behind", x.belt(r, c, 1), m.colour(r, c, true));
                CHECKS.due("slant", x.belt(r, c, 2), m.slant(r, c));
                CHECKS.due("turn", x.belt(r, c, 3), m.rows.get(r)[c]);
                CHECKS.due("twist", x.belt(r, c, 4), m.twist(r, c) + 100);
            }
        }
        for (int i = 0; i < m.colours.size(); i++) {
            CHECKS.due("shown", x.shown(i, false), shown[0][i]);
            CHECKS.due("shown behind", x.shown(i, true), shown[1][i]);
        }
        int[] image = m.image();
        int[] got = Checks.image(x);
        CHECKS.due("image", got.length, image.length);
        for (int i = 0; i < image.length && i < got.length; i++) {
            CHECKS.due("octet " + i, got[i], image[i]);
        }
        CHECKS.due("no octet", x.octet(image.length), -1);
    }

    private static void seeStrip(QueenBelt x, Model m) {
        boolean there = m.front.length > 0;
        boolean pair = there && m.front.length == m.behind.length;
        int barred = there ? m.barred() : -1;
        int nearest = 0;
        for (int c = 0; c < m.cards.size(); c++) {
            for (int corner = -1; corner < 4; corner++) {
                for (int what = 0; what < 3; what++) {
                    CHECKS.due("woven " + what, x.woven(c, corner, what),
                            there ? m.woven(c, corner, what) : -1);
                }
                CHECKS.due("both", x.both(c, corner),
                        pair ? m.ways(c, corner, m.front.length, true).size() : -1);
            }
            int near = there ? m.nearest(c) : -1;
            CHECKS.due("nearest", x.nearest(c), near);
            nearest += near;
            for (int r = 0; r <= m.front.length; r++) {
                CHECKS.due("sure", x.sure(c, r), r < m.front.length ? m.sure(c, r) : -1);
            }
        }
        CHECKS.due("nearest of all", x.nearest(-1), there ? nearest : -1);
        CHECKS.due("barred", x.barred(0), barred);
        CHECKS.due("barred row", x.barred(1), barred < 0 ? -1 : m.barredRow(barred));
        CHECKS.due("apart", x.apart(), m.apart());
        CHECKS.due("mend", x.mend(), there ? m.mend() : -1);
        boolean long2 = there && m.rows.size() >= m.front.length;
        List<Integer> wrong = long2 ? m.wrongTurns() : new ArrayList<>();
        CHECKS.due("wrongs", x.wrong(-1), long2 ? wrong.size() : -1);
        for (int i = 0; i <= wrong.size(); i++) {
            CHECKS.due("wrong", x.wrong(i), i < wrong.size() ? wrong.get(i) : -1);
        }
    }

    private static void act(QueenBelt x, Model m, Random random) {
        switch (random.nextInt(9)) {
            case 0:
            case 1:
            case 2:
            case 3: {
                int how = random.nextInt(4);
                int pack = random.nextInt(m.packs.size() + 2) - 1;
                boolean can = how < 3 && pack < m.packs.size() && !(how == 2 && pack < 0)
                        && !m.cards.isEmpty() && m.weave(m.rowOf(how, pack));
                if (can) {
                    m.keep(() -> m.rows.remove(m.rows.size() - 1));
                }
                CHECKS.due("turn", x.turn(how, pack), can ? m.rows.size() : -1);
                break;
            }
            case 4: {
                boolean can = !m.rows.isEmpty();
                if (can) {
                    int[] row = m.rows.remove(m.rows.size() - 1);
                    m.keep(() -> m.rows.add(row));
                }
                CHECKS.due("unweave", x.unweave(), can);
                break;
            }
            case 5: {
                int c = random.nextInt(m.cards.size() + 1);
                boolean can = c < m.cards.size();
                if (can) {
                    int[] was = m.threads.get(c);
                    m.threads.set(c, new int[] {was[1], was[2], was[3], was[0]});
                    m.keep(() -> m.threads.set(c, was));
                }
                CHECKS.due("shift", x.shift(c), can);
                break;
            }
            case 6: {
                int c = random.nextInt(m.cards.size() + 1);
                boolean can = c < m.cards.size();
                if (can) {
                    m.strungZ.set(c, !m.strungZ.get(c));
                    m.keep(() -> m.strungZ.set(c, !m.strungZ.get(c)));
                }
                CHECKS.due("string", x.string(c), can);
                break;
            }
            default: {
                boolean can = !m.takeBack.isEmpty();
                if (can) {
                    m.takeBack.remove(m.takeBack.size() - 1).run();
                }
                CHECKS.due("undo", x.undo(), can);
            }
        }
    }

    private static void newStrip(QueenBelt x, Model m, Random random) {
        boolean behind = random.nextInt(3) == 0;
        int rows = behind && m.front.length > 0 ? m.front.length
                : random.nextInt(3) > 0 ? 1 + random.nextInt(6) : random.nextInt(14);
        boolean odd = random.nextInt(10) == 0;
        int n = rows * m.cards.size() + (odd ? 1 : 0);
        int[] cells = new int[n];
        int[][] strip = new int[rows][m.cards.size()];
        boolean copies = random.nextBoolean();
        int blur = 2 + random.nextInt(10);
        boolean valid = rows > 0 && rows <= 12 && !m.cards.isEmpty()
                && n == rows * m.cards.size();
        if (odd && m.cards.size() == 1) {
            return;
        }
        for (int i = 0; i < rows * m.cards.size(); i++) {
            int r = i / m.cards.size();
            int c = i % m.cards.size();
            int colour = 1 + (copies && r < m.rows.size() ? m.colour(r, c, behind)
                    : m.threads.get(c)[random.nextInt(4)]);
            cells[i] = random.nextInt(blur) == 0 ? 0 : random.nextInt(20) == 0
                    ? random.nextInt(m.colours.size() + 1) : colour;
            strip[r][c] = cells[i];
        }
        if (n > 0 && random.nextInt(20) == 0) {
            cells[random.nextInt(n)] = m.colours.size() + 1 + random.nextInt(3);
            valid = false;
        }
        CHECKS.due("strip", Checks.strip(x, behind, cells), valid ? rows : -1);
        CHECKS.due("the tape goes", x.end(1), false);
        if (valid && behind) {
            m.behind = strip;
        } else if (valid) {
            m.front = strip;
        }
    }

    private static void readImage(QueenBelt x, Model m, Random random) {
        int[] bytes = m.image();
        int body = bytes.length - 1;
        int[] made = java.util.Arrays.copyOf(bytes, body);
        for (int i = 0; i < 3 && body > 1; i++) {
            int at = 1 + random.nextInt(body - 1);
            made[at] = random.nextInt(8) == 0 ? random.nextInt(8) : made[at] > 0 ? made[at] - 1 : 1;
        }
        boolean broken = random.nextInt(6) == 0;
        int[] all = Checks.summed(made);
        if (broken) {
            all[random.nextInt(all.length)] ^= 1;
        }
        Model next = new Model();
        boolean good = !broken && bring(m, next, made);
        CHECKS.due("on", Checks.on(x, all), good);
        CHECKS.due("the tape goes", x.end(1), false);
        if (good) {
            m.rows = next.rows;
            m.threads = next.threads;
            m.strungZ = next.strungZ;
            m.takeBack.clear();
        }
    }

    private static boolean bring(Model m, Model next, int[] made) {
        next.limit = m.limit;
        next.cards.addAll(m.cards);
        int at = 1;
        for (int c = 0; c < m.cards.size(); c++, at += 5) {
            if (made[at] > 1) {
                return false;
            }
            next.strungZ.add(made[at] == 1);
            next.threads.add(java.util.Arrays.copyOfRange(made, at + 1, at + 5));
            for (int colour : next.threads.get(c)) {
                if (colour >= m.colours.size()) {
                    return false;
                }
            }
        }
        for (int r = 0; r < made[0]; r++, at += m.cards.size()) {
            int[] row = java.util.Arrays.copyOfRange(made, at, at + m.cards.size());
            for (int turn : row) {
                if (turn > 2) {
                    return false;
                }
            }
            if (!next.weave(row)) {
                return false;
            }
        }
        return true;
    }

    /** A question's text, and what it is worth in each row. */
    private static final class Said {
        final Random random;
        final Model model;
        final StringBuilder text = new StringBuilder();

        Said(Random random, Model model) {
            this.random = random;
            this.model = model;
        }

        void say(String part) {
            boolean tight = Character.isLetterOrDigit(part.charAt(0));
            boolean after = text.length() > 0
                    && Character.isLetterOrDigit(text.charAt(text.length() - 1));
            if (tight && after || random.nextInt(4) == 0) {
                text.append(random.nextInt(5) == 0 ? "\n" : " ");
            }
            text.append(part);
        }

        static long hold(long n) {
            return n > 1000000 ? 1000000 : n < -1000000 ? -1000000 : n;
        }

        long[] each(long value) {
            long[] all = new long[model.rows.size()];
            java.util.Arrays.fill(all, value);
            return all;
        }

        long[] test(int open) {
            long[] all = both(open);
            for (int i = random.nextInt(3); i > 1; i--) {
                say("or");
                long[] more = both(open);
                for (int r = 0; r < all.length; r++) {
                    all[r] = all[r] + more[r] > 0 ? 1 : 0;
                }
            }
            return all;
        }

        long[] both(int open) {
            long[] all = fact(open);
            for (int i = random.nextInt(3); i > 1; i--) {
                say("and");
                long[] more = fact(open);
                for (int r = 0; r < all.length; r++) {
                    all[r] *= more[r];
                }
            }
            return all;
        }

        long[] fact(int open) {
            int kind = random.nextInt(8);
            if (kind == 0) {
                say("all");
                return each(1);
            }
            if (kind == 1 && open < 6) {
                say("not");
                long[] all = fact(open + 1);
                for (int r = 0; r < all.length; r++) {
                    all[r] = 1 - all[r];
                }
                return all;
            }
            if (kind == 2 && open < 6) {
                say("[");
                long[] all = test(open + 1);
                say("]");
                return all;
            }
            long[] left = sum(open);
            String sign = List.of("<", ">", "=").get(random.nextInt(3));
            say(sign);
            long[] right = sum(open);
            for (int r = 0; r < left.length; r++) {
                boolean holds = sign.equals("<") ? left[r] < right[r]
                        : sign.equals(">") ? left[r] > right[r] : left[r] == right[r];
                left[r] = holds ? 1 : 0;
            }
            return left;
        }

        long[] sum(int open) {
            long[] all = product(open);
            for (int i = random.nextInt(4); i > 1; i--) {
                boolean plus = random.nextBoolean();
                say(plus ? "+" : "-");
                long[] more = product(open);
                for (int r = 0; r < all.length; r++) {
                    all[r] = hold(plus ? all[r] + more[r] : all[r] - more[r]);
                }
            }
            return all;
        }

        long[] product(int open) {
            long[] all = part(open);
            for (int i = random.nextInt(4); i > 1; i--) {
                boolean times = random.nextBoolean();
                say(times ? "*" : "/");
                long[] more = part(open);
                for (int r = 0; r < all.length; r++) {
                    all[r] = times ? hold(all[r] * more[r]) : more[r] == 0 ? 0
                            : (long) Math.floor((double) all[r] / more[r]);
                }
            }
            return all;
        }

        long[] part(int open) {
            int kind = random.nextInt(open < 6 ? 12 : 5);
            if (kind < 2) {
                int n = random.nextInt(4) == 0 ? random.nextInt(10000) : random.nextInt(10);
                say("" + n);
                return each(n);
            }
            long[] all = each(0);
            if (kind < 5) {
                say(kind == 2 ? "row" : kind == 3 ? "back" : "still");
                for (int r = 0; r < all.length; r++) {
                    int many = 0;
                    for (int turn : model.rows.get(r)) {
                        many += turn == (kind == 3 ? 2 : 0) ? 1 : 0;
                    }
                    all[r] = kind == 2 ? r : many;
                }
                return all;
            }
            if (kind < 9) {
                say(List.of("front", "behind", "slant", "twist").get(kind - 5));
                long[] of = part(open + 1);
                for (int r = 0; r < all.length; r++) {
                    boolean there = of[r] >= 0 && of[r] < model.cards.size();
                    int c = there ? (int) of[r] : 0;
                    all[r] = !there ? (kind < 7 ? 99 : 0) : kind == 5 ? model.colour(r, c, false)
                            : kind == 6 ? model.colour(r, c, true)
                            : kind == 7 ? model.slant(r, c) : model.twist(r, c);
                }
                return all;
            }
            if (kind == 9) {
                say("(");
                all = sum(open + 1);
                say(")");
                return all;
            }
            say(kind == 10 ? "min" : "max");
            say("(");
            all = sum(open + 1);
            say(",");
            long[] more = sum(open + 1);
            say(")");
            for (int r = 0; r < all.length; r++) {
                all[r] = kind == 10 ? Math.min(all[r], more[r]) : Math.max(all[r], more[r]);
            }
            return all;
        }
    }

    private static void askOne(QueenBelt x, Model m, Random random) {
        Said said = new Said(random, m);
        int kind = random.nextInt(6);
        said.say(List.of("first", "last", "often", "total", "most", "least").get(kind));
        long[] rows = kind < 3 ? said.test(0) : said.sum(0);
        if (said.text.length() > 1600) {
            return;
        }
        long want = kind < 2 ? -1 : 0;
        for (int r = 0; r < rows.length; r++) {
            boolean first = r == 0;
            switch (kind) {
                case 0: want = want < 0 && rows[r] > 0 ? r : want; break;
                case 1: want = rows[r] > 0 ? r : want; break;
                case 4: want = first ? rows[r] : Math.max(want, rows[r]); break;
                case 5: want = first ? rows[r] : Math.min(want, rows[r]); break;
                default: want += rows[r];
            }
        }
        CHECKS.due("ask " + said.text, Checks.ask(x, said.text.toString()), want);
        CHECKS.due("fault", x.fault(0), 0);
        CHECKS.due("the tape goes", x.end(1), false);
    }

    /** A fault's place bears no fault ahead of it: the text up to it is fine, or ends too soon. */
    private static void spoil(QueenBelt x, Model m, Random random) {
        Writer writer = new Writer(random);
        writer.write();
        StringBuilder text = new StringBuilder(writer.text);
        for (int i = random.nextInt(3); i >= 0 && text.length() > 1; i--) {
            int at = random.nextInt(text.length());
            switch (random.nextInt(4)) {
                case 0: text.deleteCharAt(at); break;
                case 1: text.setCharAt(at, (char) random.nextInt(256)); break;
                case 2: text.insert(at, " ;[]ab5".charAt(random.nextInt(7))); break;
                default: text.insert(at, text.substring(at, Math.min(at + 9, text.length())));
            }
        }
        text.setLength(Math.min(text.length(), 1600));
        QueenBelt y = new QueenBelt();
        if (Checks.text(y, text.toString()) >= 0) {
            return;
        }
        int place = y.fault(1);
        CHECKS.due("same", Checks.text(x, text.toString()), -1);
        CHECKS.due("same fault", x.fault(0), y.fault(0));
        CHECKS.due("same place", x.fault(1), place);
        boolean seventh = place > 0 && place < text.length()
                && Character.isLetter(text.charAt(place - 1))
                && Character.isLetter(text.charAt(place));
        QueenBelt z = new QueenBelt();
        if (!seventh && Checks.text(z, text.substring(0, place)) < 0) {
            CHECKS.due("ends too soon: " + text, z.fault(0), 1);
            CHECKS.due("there: " + text, z.fault(1), place);
        }
    }

    public static void main(String[] args) {
        for (int seed = 0; seed < 400; seed++) {
            Random random = new Random(seed);
            QueenBelt x = new QueenBelt();
            Model m = new Model();
            for (int step = 0; step < 60; step++) {
                int kind = random.nextInt(20);
                if (step == 1 || kind == 0 && random.nextInt(8) == 0) {
                    m = freshModel(x, random);
                    seeNames(x, m);
                    seeBelt(x, m);
                } else if (kind < 9) {
                    act(x, m, random);
                } else if (kind < 12) {
                    newStrip(x, m, random);
                } else if (kind < 16) {
                    askOne(x, m, random);
                } else if (kind < 17) {
                    readImage(x, m, random);
                } else if (kind < 18) {
                    spoil(x, m, random);
                }
                seeLoom(x, m);
                if (step % 6 == 5) {
                    seeBelt(x, m);
                }
                if (step % 12 == 11) {
                    seeStrip(x, m);
                }
            }
        }
        CHECKS.end();
    }
}
