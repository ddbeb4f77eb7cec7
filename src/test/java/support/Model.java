import java.util.ArrayList;
import java.util.HashMap;
import java.util.List;
import java.util.Map;
import java.util.NoSuchElementException;
import java.util.TreeMap;
import java.util.TreeSet;

/** The document told a second time, as plainly as can be and without regard to time and room: what the class is held against. */
final class Model {
    record Token(char sort, String text, int place) {
    }

    record Echo(int time, int strength, int way, int which) {
    }

    record State(Map<Integer, Integer> faces, Map<Integer, Integer> woods, int years, List<int[]> book) {
    }

    static final class Fault extends Exception {
        private static final long serialVersionUID = 1L;
        final int kind;
        final int place;

        Fault(int kind, int place) {
            this.kind = kind;
            this.place = place;
        }
    }

    static final class Told {
        int w;
        int h;
        int loud = 20;
        int law;
        Map<Integer, Integer> faces = new HashMap<>();
        Map<Integer, Integer> woods = new HashMap<>();
        Map<String, List<int[]>> lists = new HashMap<>();

        List<int[]> list(String word) {
            return lists.computeIfAbsent(word, k -> new ArrayList<>());
        }
    }

    static final int[][] STEPS = {{1, 0}, {1, 1}, {0, 1}, {-1, 1}, {-1, 0}, {-1, -1}, {0, -1}, {1, -1}};

    StringBuilder tape = new StringBuilder();
    int faultPlace = -1;
    int[] refused = new int[3];
    Told told = new Told();
    Map<Integer, Integer> faces = new HashMap<>();
    Map<Integer, Integer> woods = new HashMap<>();
    int years;
    List<int[]> book = new ArrayList<>();
    List<State> images = new ArrayList<>();

    // ---- the text

    static List<Token> tokens(String text) {
        List<Token> tokens = new ArrayList<>();
        java.util.regex.Matcher m = java.util.regex.Pattern.compile("[a-z]+|[0-9]+|[^a-z0-9 ]", java.util.regex.Pattern.DOTALL).matcher(text);
        while (m.find()) {
            char c = m.group().charAt(0);
            tokens.add(new Token(c >= 'a' && c <= 'z' ? 'w' : c >= '0' && c <= '9' ? 'n' : c == ';' ? ';' : '?', m.group(), m.start()));
        }
        tokens.add(new Token('$', "", text.length()));
        return tokens;
    }

    static Told parse(String text) throws Fault {
        Told t = new Told();
        List<Token> tokens = tokens(text);
        Map<String, Integer> limits = Map.of("snow", 8, "field", 5, "site", 4, "season", 4, "maybe", 8);
        Map<String, Integer> sizes = Map.of("valley", 2, "face", 3, "wood", 3, "snow", 3, "field", 5, "site", 3, "season", 2, "maybe", 2, "loud", 1, "law", 1);
        int i = 0;
        int clauses = 0;
        while (tokens.get(i).sort() != '$') {
            Token word = tokens.get(i);
            if (word.sort() != 'w' || !sizes.containsKey(word.text()) || word.text().equals("valley") != (clauses == 0)) {
                throw new Fault(1, word.place());
            }
            if (clauses == 60 || limits.containsKey(word.text()) && t.list(word.text()).size() == limits.get(word.text())) {
                throw new Fault(3, word.place());
            }
            clauses++;
            int[] v = new int[sizes.get(word.text())];
            for (int k = 0; k < v.length; k++) {
                Token n = tokens.get(++i);
                if (n.sort() != 'n') {
                    throw new Fault(1, n.place());
                }
                java.math.BigInteger value = new java.math.BigInteger(n.text());
                int[] bounds = bounds(word.text(), k, v, t);
                if (value.compareTo(java.math.BigInteger.valueOf(bounds[0])) < 0 || value.compareTo(java.math.BigInteger.valueOf(bounds[1])) > 0) {
                    throw new Fault(2, n.place());
                }
                v[k] = value.intValue();
            }
            Token end = tokens.get(++i);
            if (end.sort() != ';') {
                throw new Fault(1, end.place());
            }
            i++;
            switch (word.text()) {
                case "valley" -> {
                    t.w = v[0];
                    t.h = v[1];
                }
                case "face" -> t.faces.put(key(v[0], v[1]), v[2]);
                case "wood" -> t.woods.put(key(v[0], v[1]), v[2]);
                case "loud" -> t.loud = v[0];
                case "law" -> t.law = v[0];
                default -> t.list(word.text()).add(v);
            }
        }
        return t;
    }

    static int[] bounds(String word, int k, int[] v, Told t) {
        if (word.equals("valley")) {
            return new int[] {2, 10};
        }
        if (word.equals("season")) {
            return k == 0 ? new int[] {0, 9} : new int[] {1, 9};
        }
        if (word.equals("loud")) {
            return new int[] {1, 99};
        }
        if (word.equals("law")) {
            return new int[] {0, 2};
        }
        if (k < 2) {
            return new int[] {0, (k == 0 ? t.w : t.h) - 1};
        }
        return switch (word) {
            case "face", "wood" -> new int[] {1, 9};
            case "snow" -> new int[] {1, 99};
            case "site" -> new int[] {0, 99};
            default -> k == 4 ? new int[] {1, 99} : new int[] {v[k - 2], (k == 2 ? t.w : t.h) - 1};
        };
    }

    static int key(int x, int y) {
        return 1000 * y + x;
    }

    // ---- refusals

    void cellNeeded(int x, int y) {
        if (x < 0 || x >= told.w || y < 0 || y >= told.h) {
            refused[0]++;
            throw new IndexOutOfBoundsException();
        }
    }

    void fieldNeeded(int f) {
        if (f < 0 || f >= told.list("field").size()) {
            refused[1]++;
            throw new NoSuchElementException();
        }
    }

    void range(int n, int low, int high) {
        if (n < low || n > high) {
            refused[2]++;
            throw new IllegalArgumentException();
        }
    }

    // ---- shouts

    /** Each position of the way is walked as a list of legs; visits gets {cell key, strength}. */
    List<Echo> shout(int x, int y, int fog, int loud, Map<Integer, Integer> walls, List<int[]> visits) {
        List<Echo> all = new ArrayList<>();
        visits.add(new int[] {key(x, y), loud});
        for (int way = 0; way < 8; way++) {
            int px = x;
            int py = y;
            int sign = 1;
            int s = loud;
            int t = 0;
            int which = 0;
            while (true) {
                px += sign * STEPS[way][0];
                py += sign * STEPS[way][1];
                t++;
                if (px < 0 || py < 0 || px >= told.w || py >= told.h) {
                    break;
                }
                s = s - 1 - fog - (woods.containsKey(key(px, py)) ? woods.get(key(px, py)) + years : 0);
                if (s < 1) {
                    break;
                }
                visits.add(new int[] {key(px, py), s});
                boolean home = px == x && py == y;
                if (home) {
                    all.add(new Echo(t, s, way, ++which));
                    if (which == 3) {
                        break;
                    }
                } else if (walls.containsKey(key(px, py))) {
                    s -= 10 - walls.get(key(px, py));
                    if (s < 1) {
                        break;
                    }
                    sign = -sign;
                }
            }
        }
        all.sort((a, b) -> a.time() != b.time() ? a.time() - b.time() : a.way() - b.way());
        return all;
    }

    List<Echo> shout(int x, int y, int fog, Map<Integer, Integer> walls) {
        return shout(x, y, fog, told.loud, walls, new ArrayList<>());
    }

    static int countOf(List<Echo> all, int law) {
        TreeMap<Integer, Integer> sums = new TreeMap<>();
        for (Echo e : all) {
            sums.merge(e.time(), e.strength(), Integer::sum);
        }
        return law == 0 ? all.size() : law == 1 ? sums.size() : (int) sums.values().stream().filter(s -> s >= 10).count();
    }

    /** {count, x, y} of each cell of a field, row by row. */
    List<int[]> counts(int f, int fog, int law, Map<Integer, Integer> walls) {
        List<int[]> counts = new ArrayList<>();
        int[] v = told.list("field").get(f);
        for (int y = v[1]; y <= v[3]; y++) {
            for (int x = v[0]; x <= v[2]; x++) {
                counts.add(new int[] {countOf(shout(x, y, fog, walls), law), x, y});
            }
        }
        return counts;
    }

    int mostOf(int f, int fog, int law, Map<Integer, Integer> walls) {
        return counts(f, fog, law, walls).stream().mapToInt(c -> c[0]).max().getAsInt();
    }

    int worthOf(int f, int fog, int law, Map<Integer, Integer> walls) {
        return told.list("field").get(f)[4] * mostOf(f, fog, law, walls);
    }

    Map<Integer, Integer> with(String word, int set) {
        Map<Integer, Integer> walls = new HashMap<>(faces);
        for (int i = 0; i < told.list(word).size(); i++) {
            if ((set >> i & 1) == 1) {
                int[] p = told.list(word).get(i);
                walls.putIfAbsent(key(p[0], p[1]), 5);
            }
        }
        return walls;
    }

    boolean siteFree(int i) {
        int[] p = told.list("site").get(i);
        return !faces.containsKey(key(p[0], p[1]));
    }

    static int part(int above, int below, int what) {
        int g = java.math.BigInteger.valueOf(above).gcd(java.math.BigInteger.valueOf(below)).intValue();
        return (what == 0 ? above : below) / g;
    }

    // ---- the face

    int feed(int a, int b, int c, int d, int e) {
        if (tape.length() + 20 > 600) {
            return -1;
        }
        for (int n : new int[] {a, b, c, d, e}) {
            tape.append((char) (n >>> 24)).append((char) (n >>> 16 & 255)).append((char) (n >>> 8 & 255)).append((char) (n & 255));
        }
        return tape.length();
    }

    int valley(int n) {
        range(n, 0, tape.length());
        String text = tape.substring(0, n);
        tape.setLength(0);
        try {
            told = parse(text);
        } catch (Fault f) {
            faultPlace = f.place;
            return f.kind - 10;
        }
        faultPlace = -1;
        faces = new HashMap<>(told.faces);
        woods = new HashMap<>(told.woods);
        years = 0;
        book.clear();
        images.clear();
        return told.list("field").size();
    }

    int fault() {
        return faultPlace;
    }

    int told(int what) {
        range(what, 0, 10);
        return new int[] {told.w, told.h, told.list("field").size(), told.list("site").size(), told.list("season").size(),
            told.list("snow").size(), told.list("maybe").size(), told.loud, told.law, years, book.size()}[what];
    }

    int cell(int x, int y, int what) {
        cellNeeded(x, y);
        range(what, 0, 1);
        return (what == 0 ? faces : woods).getOrDefault(key(x, y), 0);
    }

    int build(int x, int y) {
        cellNeeded(x, y);
        return faces.putIfAbsent(key(x, y), 5) == null ? 1 : 0;
    }

    int fell(int x, int y) {
        cellNeeded(x, y);
        Integer was = woods.remove(key(x, y));
        return was == null ? 0 : was;
    }

    int years(int n) {
        range(n, 0, 20);
        years = years + n > 20 ? 20 : years + n;
        return years;
    }

    int echoes(int x, int y, int fog) {
        cellNeeded(x, y);
        range(fog, 0, 9);
        return shout(x, y, fog, faces).size();
    }

    int echo(int x, int y, int fog, int i, int what) {
        cellNeeded(x, y);
        range(fog, 0, 9);
        range(what, 0, 3);
        List<Echo> all = shout(x, y, fog, faces);
        if (i < 0 || i >= all.size()) {
            return -1;
        }
        Echo e = all.get(i);
        return new int[] {e.time(), e.strength(), e.way(), e.which()}[what];
    }

    int count(int x, int y, int fog, int law) {
        cellNeeded(x, y);
        range(fog, 0, 9);
        range(law, 0, 2);
        return countOf(shout(x, y, fog, faces), law);
    }

    int field(int f, int what) {
        fieldNeeded(f);
        range(what, 0, 4);
        return told.list("field").get(f)[what];
    }

    int most(int f, int fog, int law, int what) {
        fieldNeeded(f);
        range(fog, 0, 9);
        range(law, 0, 2);
        range(what, 0, 2);
        int[] best = null;
        for (int[] c : counts(f, fog, law, faces)) {
            best = best == null || c[0] > best[0] ? c : best;
        }
        return best[what];
    }

    int least(int f, int fog, int law, int what) {
        fieldNeeded(f);
        range(fog, 0, 9);
        range(law, 0, 2);
        range(what, 0, 2);
        int[] best = null;
        for (int[] c : counts(f, fog, law, faces)) {
            best = best == null || c[0] < best[0] ? c : best;
        }
        return best[what];
    }

    int mean(int f, int fog, int law, int what) {
        fieldNeeded(f);
        range(fog, 0, 9);
        range(law, 0, 2);
        range(what, 0, 1);
        List<int[]> counts = counts(f, fog, law, faces);
        return part(counts.stream().mapToInt(c -> c[0]).sum(), counts.size(), what);
    }

    int worth(int f, int fog) {
        fieldNeeded(f);
        range(fog, 0, 9);
        return worthOf(f, fog, told.law, faces);
    }

    int gain(int x, int y, int f) {
        cellNeeded(x, y);
        fieldNeeded(f);
        Map<Integer, Integer> then = new HashMap<>(faces);
        then.putIfAbsent(key(x, y), 5);
        return worthOf(f, 0, told.law, then) - worthOf(f, 0, told.law, faces);
    }

    int building(int f, int n, int what) {
        fieldNeeded(f);
        range(n, 0, 24);
        range(what, 0, 1);
        TreeSet<Integer> found = new TreeSet<>();
        sets:
        for (int set = 0; set < 1 << told.list("site").size(); set++) {
            int cost = 0;
            for (int i = 0; i < told.list("site").size(); i++) {
                if ((set >> i & 1) == 1) {
                    if (!siteFree(i)) {
                        continue sets;
                    }
                    cost += told.list("site").get(i)[2];
                }
            }
            if (mostOf(f, 0, told.law, with("site", set)) >= n) {
                found.add(cost * 100 + set);
            }
        }
        return found.isEmpty() ? -1 : what == 0 ? found.first() / 100 : found.first() % 100;
    }

    int rests(int what) {
        range(what, 0, 1);
        List<Integer> rows = new ArrayList<>();
        Map<Integer, Integer> known = new HashMap<>();
        allRows(new int[told.list("field").size()], 0, rows, known);
        return what == 0 ? rows.size() : rows.isEmpty() ? -1 : rows.get(0);
    }

    private void allRows(int[] row, int at, List<Integer> rows, Map<Integer, Integer> known) {
        if (at == row.length) {
            if (atRest(row, known)) {
                int digits = 0;
                for (int c : row) {
                    digits = 10 * digits + c;
                }
                rows.add(digits);
            }
            return;
        }
        for (int c = 0; c <= told.list("site").size(); c++) {
            if (c == 0 || siteFree(c - 1)) {
                row[at] = c;
                allRows(row, at + 1, rows, known);
            }
        }
    }

    private boolean atRest(int[] row, Map<Integer, Integer> known) {
        for (int f = 0; f < row.length; f++) {
            int now = has(row, f, known);
            for (int c = 0; c <= told.list("site").size(); c++) {
                int[] other = row.clone();
                other[f] = c;
                if ((c == 0 || siteFree(c - 1)) && has(other, f, known) > now) {
                    return false;
                }
            }
        }
        return true;
    }

    private int has(int[] row, int f, Map<Integer, Integer> known) {
        int set = 0;
        for (int c : row) {
            set |= c == 0 ? 0 : 1 << c - 1;
        }
        int barns = set;
        return known.computeIfAbsent(set * 10 + f, k -> worthOf(f, 0, told.law, with("site", barns)))
            - (row[f] == 0 ? 0 : told.list("site").get(row[f] - 1)[2]);
    }

    int fair(int f, int what) {
        fieldNeeded(f);
        range(what, 0, 1);
        if (told.list("season").isEmpty()) {
            return what == 0 ? worthOf(f, 0, told.law, faces) : 1;
        }
        int above = 0;
        int below = 0;
        for (int[] season : told.list("season")) {
            above += season[1] * worthOf(f, season[0], told.law, faces);
            below += season[1];
        }
        return part(above, below, what);
    }

    int trade(int f, int what) {
        fieldNeeded(f);
        range(what, 0, 1);
        int best = 0;
        int pair = -1;
        int n = told.list("season").size();
        for (int code = 0; code < n * n; code++) {
            int more = worthOf(f, told.list("season").get(code % n)[0], told.law, faces)
                - worthOf(f, told.list("season").get(code / n)[0], told.law, faces);
            if (more > best) {
                best = more;
                pair = code / n * 10 + code % n;
            }
        }
        return what == 0 ? best : pair;
    }

    int unlike(int law, int other) {
        range(law, 0, 2);
        range(other, 0, 2);
        int pairs = 0;
        int n = told.list("field").size();
        for (int i = 0; i < n; i++) {
            for (int j = 0; j < i; j++) {
                if (more(i, j, law) != more(i, j, other) || more(j, i, law) != more(j, i, other)) {
                    pairs++;
                }
            }
        }
        return pairs;
    }

    private boolean more(int i, int j, int law) {
        return worthOf(i, 0, law, faces) > worthOf(j, 0, law, faces);
    }

    private int heardOf(List<Echo> all, int notes, int time) {
        int sum = 0;
        for (int note = 0; note < 12; note++) {
            for (Echo e : all) {
                sum += (notes >> note & 1) == 1 && note + e.time() == time ? e.strength() : 0;
            }
        }
        return sum;
    }

    private int[] loudestOf(List<Echo> all, int notes) {
        int[] best = {0, 0};
        for (int t = 0; t < 100; t++) {
            int h = heardOf(all, notes, t);
            best = h > best[0] ? new int[] {h, t} : best;
        }
        return best;
    }

    int heard(int x, int y, int notes, int time) {
        cellNeeded(x, y);
        range(notes, 0, 4095);
        range(time, 0, 99);
        return heardOf(shout(x, y, 0, faces), notes, time);
    }

    int loudest(int x, int y, int notes, int what) {
        cellNeeded(x, y);
        range(notes, 0, 4095);
        range(what, 0, 1);
        return loudestOf(shout(x, y, 0, faces), notes)[what];
    }

    int compose(int x, int y, int k) {
        cellNeeded(x, y);
        range(k, 1, 12);
        List<Echo> all = shout(x, y, 0, faces);
        int best = -1;
        int song = -1;
        for (int notes = 0; notes < 4096; notes++) {
            if (Integer.bitCount(notes) == k && loudestOf(all, notes)[0] > best) {
                best = loudestOf(all, notes)[0];
                song = notes;
            }
        }
        return song;
    }

    int book(int x, int y, int time, int many) {
        cellNeeded(x, y);
        range(time, 1, 99);
        range(many, 0, 24);
        if (book.size() == 9) {
            return -1;
        }
        book.add(new int[] {x, y, time, many});
        return book.size();
    }

    int forget() {
        int n = book.size();
        book.clear();
        return n;
    }

    private List<Integer> explaining() {
        List<Integer> sets = new ArrayList<>();
        for (int set = 0; set < 1 << told.list("maybe").size(); set++) {
            Map<Integer, Integer> walls = with("maybe", set);
            if (book.stream().allMatch(l -> shout(l[0], l[1], 0, walls).stream().filter(e -> e.time() == l[2]).count() == l[3])) {
                sets.add(set);
            }
        }
        return sets;
    }

    int explain(int what) {
        range(what, 0, 3);
        List<Integer> sets = explaining();
        if (what == 0) {
            return sets.size();
        }
        if (sets.isEmpty()) {
            return what == 1 ? -1 : 0;
        }
        if (what == 1) {
            return sets.get(0);
        }
        int bits = 0;
        for (int i = 0; i < told.list("maybe").size(); i++) {
            int bit = 1 << i;
            boolean fits = what == 2 ? sets.stream().allMatch(s -> (s & bit) != 0) : sets.stream().allMatch(s -> (s & bit) == 0);
            bits |= fits ? bit : 0;
        }
        return bits;
    }

    int ask(int what) {
        range(what, 0, 2);
        List<Integer> sets = explaining();
        int[] best = {-1, -1, -1};
        for (int y = 0; y < told.h && !sets.isEmpty(); y++) {
            for (int x = 0; x < told.w; x++) {
                Map<Integer, Integer> parts = new HashMap<>();
                for (int set : sets) {
                    parts.merge(shout(x, y, 0, with("maybe", set)).size(), 1, Integer::sum);
                }
                int worst = parts.values().stream().mapToInt(n -> n).max().getAsInt();
                best = best[2] == -1 || worst < best[2] ? new int[] {x, y, worst} : best;
            }
        }
        return best[what];
    }

    private int falling(int x, int y, int loud) {
        List<int[]> visits = new ArrayList<>();
        shout(x, y, 0, loud, faces, visits);
        int bits = 0;
        for (int i = 0; i < told.list("snow").size(); i++) {
            int[] snow = told.list("snow").get(i);
            bits |= visits.stream().anyMatch(v -> v[0] == key(snow[0], snow[1]) && v[1] >= snow[2]) ? 1 << i : 0;
        }
        return bits;
    }

    int snows(int x, int y) {
        cellNeeded(x, y);
        return falling(x, y, told.loud);
    }

    int safe() {
        int n = 0;
        for (int y = 0; y < told.h; y++) {
            for (int x = 0; x < told.w; x++) {
                n += falling(x, y, told.loud) == 0 ? 1 : 0;
            }
        }
        return n;
    }

    int hush(int x, int y) {
        cellNeeded(x, y);
        for (int s = 99; s >= 1; s--) {
            if (falling(x, y, s) == 0) {
                return s;
            }
        }
        return 0;
    }

    int deaf(int f, int d) {
        fieldNeeded(f);
        range(d, 1, 99);
        int best = 0;
        for (int[] c : counts(f, 0, 0, faces)) {
            best = Math.max(best, (int) shout(c[1], c[2], 0, faces).stream().filter(e -> e.strength() >= d).count());
        }
        return best;
    }

    int image() {
        if (images.size() == 3) {
            return -1;
        }
        images.add(new State(new HashMap<>(faces), new HashMap<>(woods), years, new ArrayList<>(book)));
        return images.size();
    }

    int restore() {
        if (images.isEmpty()) {
            return -1;
        }
        State s = images.remove(images.size() - 1);
        faces = s.faces();
        woods = s.woods();
        years = s.years();
        book = s.book();
        return images.size();
    }

    int status(int what) {
        return what >= 0 && what <= 2 ? refused[what] : -1;
    }

    int sums(int what) {
        return what == 0 ? images.size() : what == 1 ? tape.length() : -1;
    }
}
