import java.util.ArrayDeque;
import java.util.ArrayList;
import java.util.Arrays;
import java.util.HashSet;
import java.util.List;
import java.util.NoSuchElementException;
import java.util.Set;
import java.util.TreeSet;

/** The document once more, written the slow way: lists of treads, all readings by trying, cuts by trying. */
final class Model {
    static final Set<String> RESERVED = Set.of("rug", "person", "wall", "door", "way", "fade", "n", "e", "s", "w",
            "or", "and", "not", "trod", "weight", "sole", "pace", "prints", "tufts", "place");

    static final class Fault extends RuntimeException {
        private static final long serialVersionUID = 1L;

        final int kind;
        final int place;

        Fault(int kind, int place) {
            this.kind = kind;
            this.place = place;
        }
    }

    record Person(String name, int weight, int sole, int pace) { }

    record Way(String name, List<Integer> tufts) { }

    record Tread(int person, int sole, int at, int dir, int day, boolean beaten) { }

    static final class House {
        int w;
        int h;
        int fade = 9;
        boolean fadeTold;
        final List<Person> people = new ArrayList<>();
        final List<Way> ways = new ArrayList<>();
        final List<Integer> walls = new ArrayList<>();
        final List<Integer> doors = new ArrayList<>();

        boolean on(int at) {
            return at >= 0 && at % 12 < w && at / 12 < h;
        }

        int step(int at, int dir) {
            int x = at % 12 + new int[] {0, 1, 0, -1}[dir];
            int y = at / 12 + new int[] {-1, 0, 1, 0}[dir];
            return x < 0 || y < 0 || x >= w || y >= h ? -1 : 12 * y + x;
        }
    }

    static final class Floor {
        final List<Tread> treads;
        final int[] walks;
        final int day;

        Floor(List<Tread> treads, int[] walks, int day) {
            this.treads = treads;
            this.walks = walks;
            this.day = day;
        }
    }

    /** A part of a SENTENCE: of a person, whether it holds. */
    interface Cond {
        boolean of(Model m, int p);
    }

    byte[] tape = {};
    House house = new House();
    List<Tread> treads = new ArrayList<>();
    int[] walks = new int[6];
    int day;
    Cond cond;
    int fault;
    final List<Floor> undos = new ArrayList<>();
    List<int[]> lastReadings;
    int[] lastWalk;
    List<Integer> lastSeen;
    final Object[][] images = new Object[2][];

    // Texts.

    String text = "";
    int pos;
    int most;
    int start;
    String token;

    void open(int most) {
        char[] c = new char[tape.length];
        for (int i = 0; i < c.length; i++) {
            c[i] = (char) (tape[i] & 255);
        }
        text = new String(c);
        tape = new byte[0];
        this.most = most;
        pos = 0;
        next();
    }

    void next() {
        while (pos < text.length() && (text.charAt(pos) == ' ' || text.charAt(pos) == '\n')) {
            pos++;
        }
        if (pos >= Math.min(text.length(), most)) {
            start = Math.min(text.length(), most);
            token = "";
            return;
        }
        start = pos;
        int end = pos;
        while (end < text.length() && (text.charAt(end) + "").matches("[a-z0-9]")) {
            end++;
        }
        end = Math.max(end, pos + 1);
        token = text.substring(pos, end);
        pos = end;
        if (!token.matches("[a-z]{1,7}|[0-9]{1,3}|[;<=>()]")) {
            token = "?";
        }
    }

    Fault bad(int kind) {
        return new Fault(kind, start);
    }

    void eat(String what) {
        if (!token.equals(what)) {
            throw bad(1);
        }
        next();
    }

    int num(int low, int high) {
        if (!token.matches("[0-9]+")) {
            throw bad(1);
        }
        int v = Integer.parseInt(token);
        if (v < low || v > high) {
            throw bad(2);
        }
        return v;
    }

    int eatNum(int low, int high) {
        int v = num(low, high);
        next();
        return v;
    }

    String name() {
        if (!token.matches("[a-z]+") || RESERVED.contains(token)) {
            throw bad(1);
        }
        return token;
    }

    boolean ended() {
        if (token.isEmpty()) {
            if (text.length() > most) {
                throw bad(1);
            }
            return true;
        }
        return false;
    }

    int person(House h, String name) {
        for (int i = 0; i < h.people.size(); i++) {
            if (h.people.get(i).name.equals(name)) {
                return i;
            }
        }
        return -1;
    }

    int way(House h, String name) {
        for (int i = 0; i < h.ways.size(); i++) {
            if (h.ways.get(i).name.equals(name)) {
                return i;
            }
        }
        return -1;
    }

    String newName(House h) {
        String n = name();
        if (person(h, n) >= 0 || way(h, n) >= 0) {
            throw bad(3);
        }
        next();
        return n;
    }

    int house() {
        open(900);
        House h = new House();
        int lines = 0;
        fault = 0;
        try {
            while (!ended()) {
                line(h);
                eat(";");
                lines++;
            }
        } catch (Fault f) {
            fault = f.kind;
            return -1 - f.place;
        }
        house = h;
        treads = new ArrayList<>();
        walks = new int[6];
        day = 0;
        cond = null;
        undos.clear();
        return lines;
    }

    void line(House h) {
        switch (token) {
            case "rug" -> {
                if (h.w > 0) {
                    throw bad(3);
                }
                next();
                int w = eatNum(2, 12);
                h.h = eatNum(2, 12);
                h.w = w;
            }
            case "fade" -> {
                if (h.fadeTold) {
                    throw bad(3);
                }
                next();
                h.fade = eatNum(1, 9);
                h.fadeTold = true;
            }
            case "person" -> {
                if (h.people.size() == 6) {
                    throw bad(4);
                }
                next();
                String n = newName(h);
                int weight = eatNum(1, 9);
                int sole = eatNum(0, 9);
                h.people.add(new Person(n, weight, sole, eatNum(1, 9)));
            }
            case "wall", "door" -> {
                boolean wall = token.equals("wall");
                List<Integer> list = wall ? h.walls : h.doors;
                if (list.size() == (wall ? 30 : 8)) {
                    throw bad(4);
                }
                next();
                int x = eatNum(0, h.w - 1);
                int at = 12 * num(0, h.h - 1) + x;
                if (list.contains(at)) {
                    throw bad(3);
                }
                list.add(at);
                next();
            }
            case "way" -> wayLine(h);
            default -> throw bad(1);
        }
    }

    void wayLine(House h) {
        if (h.ways.size() == 6) {
            throw bad(4);
        }
        next();
        String n = newName(h);
        int x = eatNum(0, h.w - 1);
        int at = 12 * num(0, h.h - 1) + x;
        if (h.walls.contains(at)) {
            throw bad(5);
        }
        next();
        List<Integer> tufts = new ArrayList<>(List.of(at));
        while (token.matches("[nesw]")) {
            int dir = "nesw".indexOf(token);
            next();
            int far = num(1, 11);
            if (tufts.size() - 1 + far > 40) {
                throw bad(4);
            }
            for (int i = 0; i < far; i++) {
                at = h.step(at, dir);
                if (at < 0 || h.walls.contains(at)) {
                    throw bad(5);
                }
                tufts.add(at);
            }
            next();
        }
        h.ways.add(new Way(n, tufts));
    }

    int walk() {
        open(300);
        fault = 0;
        List<int[]> lines = new ArrayList<>();
        int p;
        int first;
        try {
            p = person(house, name());
            if (p < 0) {
                throw bad(3);
            }
            next();
            int x = eatNum(0, house.w - 1);
            first = 12 * eatNum(0, house.h - 1) + x;
            eat(";");
            while (!ended()) {
                if (!token.matches("[nesw]")) {
                    throw bad(1);
                }
                if (lines.size() == 30) {
                    throw bad(4);
                }
                int dir = "nesw".indexOf(token);
                next();
                int far = eatNum(1, 11);
                lines.add(new int[] {dir, far, eatNum(1, 99)});
                eat(";");
            }
        } catch (Fault f) {
            fault = f.kind;
            return -2 - f.place;
        }
        if (house.walls.contains(first)) {
            lastWalk = new int[] {1, 0, 0, -1};
            return 0;
        }
        int gone = 0;
        int time = 0;
        int at = first;
        for (int i = 0; i < lines.size(); i++) {
            int[] l = lines.get(i);
            int to = at;
            for (int k = 0; k < l[1] && to >= 0; k++) {
                to = house.step(to, l[0]);
                to = house.walls.contains(to) ? -1 : to;
            }
            int why = to < 0 ? 1
                    : l[1] > house.people.get(p).pace * l[2] ? 2
                    : i > 0 && l[2] == 1 && (l[0] + 2) % 4 == lines.get(i - 1)[0] ? 3 : 0;
            if (why > 0) {
                lastWalk = new int[] {why, gone, time, at};
                return i + 1;
            }
            gone += l[1];
            time += l[2];
            at = to;
        }
        lastWalk = new int[] {0, gone, time, at};
        return -1;
    }

    int walked(int what) {
        return lastWalk == null || what < 0 || what > 3 ? -1 : lastWalk[what];
    }

    int ones;

    int sentence() {
        open(200);
        fault = 0;
        ones = 0;
        try {
            Cond c = or(1);
            if (!ended()) {
                throw bad(1);
            }
            cond = c;
            return ones;
        } catch (Fault f) {
            fault = f.kind;
            return -1 - f.place;
        }
    }

    Cond or(int level) {
        Cond left = and(level);
        while (token.equals("or")) {
            next();
            Cond a = left;
            Cond b = and(level);
            left = (m, p) -> a.of(m, p) || b.of(m, p);
        }
        return left;
    }

    Cond and(int level) {
        Cond left = one(level);
        while (token.equals("and")) {
            next();
            Cond a = left;
            Cond b = one(level);
            left = (m, p) -> a.of(m, p) && b.of(m, p);
        }
        return left;
    }

    Cond one(int level) {
        if (!token.matches("not|\\(|trod|weight|sole|pace|prints|tufts|place")) {
            throw bad(1);
        }
        if (ones == 20 || level == 9) {
            throw bad(4);
        }
        ones++;
        String what = token;
        next();
        if (what.equals("not")) {
            Cond c = one(level + 1);
            return (m, p) -> !c.of(m, p);
        }
        if (what.equals("(")) {
            Cond c = or(level + 1);
            eat(")");
            return c;
        }
        if (what.equals("trod")) {
            int w = way(house, name());
            if (w < 0) {
                throw bad(3);
            }
            next();
            return (m, p) -> m.lying().stream()
                    .anyMatch(t -> t.person == p && m.house.ways.get(w).tufts.contains(t.at));
        }
        String sign = token;
        if (!sign.matches("[<=>]")) {
            throw bad(1);
        }
        next();
        int v = eatNum(0, 999);
        return (m, p) -> {
            int is = switch (what) {
                case "weight" -> m.house.people.get(p).weight;
                case "sole" -> m.house.people.get(p).sole;
                case "pace" -> m.house.people.get(p).pace;
                case "prints" -> m.person(p, 3);
                case "tufts" -> m.person(p, 4);
                default -> p;
            };
            return sign.equals("<") ? is < v : sign.equals("=") ? is == v : is > v;
        };
    }

    int said(int k) {
        if (cond == null) {
            return -1;
        }
        List<Integer> of = new ArrayList<>();
        for (int p = 0; p < house.people.size(); p++) {
            if (cond.of(this, p)) {
                of.add(p);
            }
        }
        return pick(of, k);
    }

    static int pick(List<Integer> row, int k) {
        return k == -1 ? row.size() : k >= 0 && k < row.size() ? row.get(k) : -1;
    }

    // The tape.

    int feed(int... five) {
        if (tape.length + 20 > 940) {
            return -1;
        }
        int was = tape.length;
        tape = Arrays.copyOf(tape, was + 20);
        for (int i = 0; i < 20; i++) {
            tape[was + i] = (byte) (five[i / 4] >> (24 - 8 * (i % 4)));
        }
        return tape.length;
    }

    boolean end(int n) {
        if (n < 0 || n > tape.length) {
            return false;
        }
        tape = Arrays.copyOf(tape, n);
        return true;
    }

    // The rug.

    int depth(Tread t) {
        return house.people.get(t.person).weight * (house.fade - (day - t.day));
    }

    List<Tread> lying() {
        return treads.stream().filter(t -> !t.beaten).toList();
    }

    List<Tread> on(int at) {
        return lying().stream().filter(t -> t.at == at).toList();
    }

    int person(int p, int what) {
        if (p < 0 || p >= house.people.size() || what < 0 || what > 5) {
            throw new NoSuchElementException();
        }
        Person who = house.people.get(p);
        List<Tread> own = lying().stream().filter(t -> t.person == p).toList();
        return switch (what) {
            case 0 -> who.weight;
            case 1 -> who.sole;
            case 2 -> who.pace;
            case 3 -> own.size();
            case 4 -> (int) own.stream().map(t -> t.at).distinct().count();
            default -> walks[p];
        };
    }

    int tuft(int at, int what) {
        if (!house.on(at) || what < 0 || what > 7) {
            throw new NoSuchElementException();
        }
        List<Tread> here = on(at);
        Tread top = here.isEmpty() ? null : here.get(here.size() - 1);
        return switch (what) {
            case 0 -> here.stream().mapToInt(this::depth).sum();
            case 1 -> here.size();
            case 2 -> top == null ? -1 : top.person;
            case 3 -> top == null ? -1 : top.sole;
            case 4 -> top == null ? -1 : top.dir;
            case 5 -> top == null ? -1 : day - top.day;
            case 6 -> house.walls.contains(at) ? 1 : 0;
            default -> house.doors.contains(at) ? 1 : 0;
        };
    }

    int way(int way, int i) {
        return way < 0 || way >= house.ways.size() ? -1
                : i < 0 || i >= house.ways.get(way).tufts.size() ? -1 : house.ways.get(way).tufts.get(i);
    }

    void keep() {
        undos.add(new Floor(new ArrayList<>(treads), walks.clone(), day));
        if (undos.size() > 6) {
            undos.remove(0);
        }
    }

    void doWalk(int p, int way, int sole) {
        List<Integer> row = house.ways.get(way).tufts;
        int dir = 0;
        for (int i = 0; i < row.size(); i++) {
            if (i + 1 < row.size()) {
                int d = row.get(i + 1) - row.get(i);
                dir = d == -12 ? 0 : d == 1 ? 1 : d == 12 ? 2 : 3;
            }
            treads.add(new Tread(p, sole, row.get(i), dir, day, false));
        }
        walks[p]++;
    }

    void doDay() {
        day++;
        treads.removeIf(t -> day - t.day >= house.fade);
    }

    int doBeat(int x0, int y0, int x1, int y1) {
        Set<Integer> had = new HashSet<>();
        for (int i = 0; i < treads.size(); i++) {
            Tread t = treads.get(i);
            int x = t.at % 12;
            int y = t.at / 12;
            if (!t.beaten && x >= x0 && x <= x1 && y >= y0 && y <= y1) {
                had.add(t.at);
                treads.set(i, new Tread(t.person, t.sole, t.at, t.dir, t.day, true));
            }
        }
        return had.size();
    }

    int goes(int p, int way, int soles) {
        int n = house.people.size();
        if (p < 0 || p >= n || soles < 0 || soles >= n || way < 0 || way >= house.ways.size()) {
            return -1;
        }
        keep();
        doWalk(p, way, house.people.get(soles).sole);
        return house.ways.get(way).tufts.size();
    }

    int days(int n) {
        if (n < 1 || n > 20 || day + n > 999) {
            return -1;
        }
        keep();
        for (int i = 0; i < n; i++) {
            doDay();
        }
        return day;
    }

    int beat(int a, int b) {
        if (!house.on(a) || !house.on(b)) {
            return -1;
        }
        keep();
        return doBeat(Math.min(a % 12, b % 12), Math.min(a / 12, b / 12), Math.max(a % 12, b % 12),
                Math.max(a / 12, b / 12));
    }

    int seed;

    int draw(int n) {
        seed = seed * 1103515245 + 12345;
        return (seed >>> 8) % n;
    }

    int years(int n, int m, int x) {
        if (n < 1 || n > 60 || m < 1 || m > 9 || house.people.isEmpty() || house.ways.isEmpty() || day + n > 999) {
            return -1;
        }
        keep();
        seed = x;
        for (int i = 0; i < n; i++) {
            for (int k = 0; k < m; k++) {
                int p = draw(house.people.size());
                doWalk(p, draw(house.ways.size()), house.people.get(p).sole);
            }
            if (draw(6) == 0) {
                int bx = draw(house.w);
                int by = draw(house.h);
                doBeat(bx, by, bx, by);
            }
            doDay();
        }
        return day;
    }

    int undo() {
        if (undos.isEmpty()) {
            return -1;
        }
        Floor f = undos.remove(undos.size() - 1);
        treads = f.treads;
        walks = f.walks;
        day = f.day;
        return undos.size();
    }

    int missing(int at) {
        return house.on(at) ? treads.stream().filter(t -> t.beaten && t.at == at).mapToInt(this::depth).sum() : -1;
    }

    int hidden(int k) {
        List<Integer> row = new ArrayList<>();
        for (int at = 0; at < 144; at++) {
            if (house.on(at) && missing(at) > 0) {
                row.add(at);
            }
        }
        return pick(row, k);
    }

    int soles(int sole) {
        int n = 0;
        for (int at = 0; at < 144; at++) {
            List<Tread> here = on(at);
            n += !here.isEmpty() && here.get(here.size() - 1).sole == sole ? 1 : 0;
        }
        return n;
    }

    int deepest() {
        int best = -1;
        for (int at = 0; at < 144; at++) {
            if (!on(at).isEmpty() && (best < 0 || tuft(at, 0) > tuft(best, 0))) {
                best = at;
            }
        }
        return best;
    }

    int age(int p, int depth) {
        for (int a = 0; p >= 0 && p < house.people.size() && a < house.fade; a++) {
            if (house.people.get(p).weight * (house.fade - a) == depth) {
                return a;
            }
        }
        return -1;
    }

    int who(int depth) {
        int bits = 0;
        for (int p = 0; p < 6; p++) {
            bits |= age(p, depth) >= 0 ? 1 << p : 0;
        }
        return bits == 0 ? -1 : bits;
    }

    int readings() {
        byte[] t = tape;
        tape = new byte[0];
        if (t.length == 0 || t.length % 4 != 0 || t.length > 32) {
            return -1;
        }
        for (int i = 0; i < t.length; i += 4) {
            if ((t[i] & 255) >= house.w || (t[i + 1] & 255) >= house.h || (t[i + 3] & 255) > 9 && t[i + 3] != -1) {
                return -1;
            }
        }
        List<int[]> fit = new ArrayList<>();
        int n = house.ways.size();
        int[] who = new int[n];
        Arrays.fill(who, -1);
        for (boolean more = true; more;) {
            if (fits(who, t)) {
                fit.add(who.clone());
            }
            int i = n - 1;
            while (i >= 0 && ++who[i] == house.people.size()) {
                who[i--] = -1;
            }
            more = i >= 0;
        }
        if (!fit.isEmpty()) {
            lastReadings = fit;
        }
        return fit.size();
    }

    boolean fits(int[] who, byte[] t) {
        for (int i = 0; i < t.length; i += 4) {
            int at = (t[i + 1] & 255) * 12 + (t[i] & 255);
            int depth = 0;
            int sole = -1;
            for (int w = 0; w < who.length; w++) {
                for (int tuft : house.ways.get(w).tufts) {
                    if (who[w] >= 0 && tuft == at) {
                        depth += house.people.get(who[w]).weight * house.fade;
                        sole = house.people.get(who[w]).sole;
                    }
                }
            }
            if (depth != (t[i + 2] & 255) || t[i + 3] != -1 && t[i + 3] != sole) {
                return false;
            }
        }
        return true;
    }

    int read(int way, int what) {
        if (lastReadings == null || way < 0 || way >= lastReadings.get(0).length || what < 0 || what > 1) {
            return -3;
        }
        int first = lastReadings.get(0)[way];
        return what == 0 || lastReadings.stream().allMatch(r -> r[way] == first) ? first : -2;
    }

    int fewest() {
        return lastReadings == null ? -1 : (int) lastReadings.stream()
                .mapToLong(r -> Arrays.stream(r).filter(p -> p >= 0).distinct().count()).min().getAsLong();
    }

    /** SIGN and STEPS, by going round until nothing gets less. */
    int[] crossing(int p, int from, int to) {
        if (p < 0 || p >= house.people.size() || !house.on(from) || !house.on(to)
                || house.walls.contains(from) || house.walls.contains(to)) {
            return new int[] {-1, -1};
        }
        int[][] best = new int[144][];
        best[from] = new int[] {mark(p, from), 0};
        for (boolean more = true; more;) {
            more = false;
            for (int at = 0; at < 144; at++) {
                for (int dir = 0; dir < 4 && best[at] != null; dir++) {
                    int on = house.step(at, dir);
                    if (on >= 0 && !house.walls.contains(on)) {
                        int[] c = {best[at][0] + mark(p, on), best[at][1] + 1};
                        if (best[on] == null || c[0] < best[on][0] || c[0] == best[on][0] && c[1] < best[on][1]) {
                            best[on] = c;
                            more = true;
                        }
                    }
                }
            }
        }
        return best[to] == null ? new int[] {-1, -1} : best[to];
    }

    int mark(int p, int at) {
        return tuft(at, 3) == house.people.get(p).sole ? 0 : house.people.get(p).weight;
    }

    int sign(int p, int from, int to) {
        return crossing(p, from, to)[0];
    }

    int steps(int p, int from, int to) {
        return crossing(p, from, to)[1];
    }

    int seen(int a, int b) {
        if (a < 0 || b < 0 || a >= house.doors.size() || b >= house.doors.size() || a == b) {
            return -1;
        }
        int s = house.doors.get(a);
        int t = house.doors.get(b);
        for (int dir = 0; dir < 4; dir++) {
            if (house.step(s, dir) == t) {
                return -1;
            }
        }
        for (int n = 0;; n++) {
            TreeSet<Integer> best = null;
            for (TreeSet<Integer> cut : cuts(s, t, new TreeSet<>(), n, new HashSet<>())) {
                if (best == null || Arrays.compare(ints(cut), ints(best)) < 0) {
                    best = cut;
                }
            }
            if (best != null) {
                lastSeen = new ArrayList<>(best);
                return n;
            }
        }
    }

    static int[] ints(TreeSet<Integer> set) {
        return set.stream().mapToInt(i -> i).toArray();
    }

    /** All sets of n TUFTS that see all ways on: one TUFT of each way on found must be among them. */
    Set<TreeSet<Integer>> cuts(int s, int t, TreeSet<Integer> laid, int n, Set<TreeSet<Integer>> tried) {
        Set<TreeSet<Integer>> found = new HashSet<>();
        if (!tried.add(new TreeSet<>(laid))) {
            return found;
        }
        List<Integer> path = path(s, t, laid);
        if (path == null) {
            if (laid.size() == n) {
                found.add(new TreeSet<>(laid));
            }
            return found;
        }
        if (laid.size() < n) {
            for (int at : path) {
                laid.add(at);
                found.addAll(cuts(s, t, laid, n, tried));
                laid.remove(at);
            }
        }
        return found;
    }

    List<Integer> path(int s, int t, Set<Integer> laid) {
        if (house.walls.contains(s)) {
            return null;
        }
        int[] from = new int[144];
        Arrays.fill(from, -1);
        from[s] = s;
        ArrayDeque<Integer> q = new ArrayDeque<>(List.of(s));
        while (!q.isEmpty()) {
            int at = q.poll();
            if (at == t) {
                List<Integer> row = new ArrayList<>();
                for (int k = from[t]; k != s; k = from[k]) {
                    row.add(k);
                }
                return row;
            }
            for (int dir = 0; dir < 4; dir++) {
                int on = house.step(at, dir);
                if (on >= 0 && from[on] < 0 && !house.walls.contains(on) && !laid.contains(on)) {
                    from[on] = at;
                    q.add(on);
                }
            }
        }
        return null;
    }

    int lay(int i) {
        return lastSeen == null || i < 0 ? -1 : pick(lastSeen, i);
    }

    int ways(int at) {
        if (!house.on(at)) {
            return -1;
        }
        int bits = 0;
        for (int w = 0; w < house.ways.size(); w++) {
            bits |= house.ways.get(w).tufts.contains(at) ? 1 << w : 0;
        }
        return bits;
    }

    int spot() {
        int best = -1;
        for (int at = 0; at < 144 && !house.ways.isEmpty(); at++) {
            if (house.on(at) && (best < 0 || Integer.bitCount(ways(at)) > Integer.bitCount(ways(best)))) {
                best = at;
            }
        }
        return best;
    }

    int both(int a, int b) {
        int n = house.ways.size();
        if (a < 0 || b < 0 || a >= n || b >= n) {
            return -1;
        }
        Set<Integer> both = new HashSet<>(house.ways.get(a).tufts);
        both.retainAll(house.ways.get(b).tufts);
        return both.size();
    }

    int rarest() {
        int best = -1;
        for (int p = house.people.size() - 1; p >= 0; p--) {
            best = best < 0 || walks[p] <= walks[best] ? p : best;
        }
        return best;
    }

    boolean image(int k) {
        if (k != 0 && k != 1) {
            return false;
        }
        images[k] = new Object[] {house, new Floor(new ArrayList<>(treads), walks.clone(), day), cond};
        return true;
    }

    boolean restore(int k) {
        if (k != 0 && k != 1 || images[k] == null) {
            return false;
        }
        house = (House) images[k][0];
        Floor f = (Floor) images[k][1];
        treads = new ArrayList<>(f.treads);
        walks = f.walks.clone();
        day = f.day;
        cond = (Cond) images[k][2];
        undos.clear();
        return true;
    }

    int count(int what) {
        return switch (what) {
            case 0 -> house.w;
            case 1 -> house.h;
            case 2 -> house.people.size();
            case 3 -> house.ways.size();
            case 4 -> house.walls.size();
            case 5 -> house.doors.size();
            case 6 -> house.fade;
            case 7 -> day;
            case 8 -> tape.length;
            default -> -1;
        };
    }
}
