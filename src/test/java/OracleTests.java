import java.util.ArrayList;
import java.util.List;
import java.util.NoSuchElementException;
import java.util.Random;
import java.util.function.IntSupplier;

/** Drawn runs of calls, each answered by RugReader and by Model: both must say the same. */
public final class OracleTests {
    private static int passed = 0;
    private static int failed = 0;

    private final Random r;
    private final RugReader x = new RugReader();
    private final Model m = new Model();
    private final List<String> told = new ArrayList<>();
    private boolean right = true;
    private int calls = 0;
    private final boolean broken;

    private OracleTests(long seed) {
        r = new Random(seed);
        broken = seed % 3 == 0;
    }

    public static void main(String[] args) {
        int runs = args.length > 0 ? Integer.parseInt(args[0]) : 400;
        int from = args.length > 1 ? Integer.parseInt(args[1]) : 0;
        for (int seed = from; seed < from + runs && failed < 5; seed++) {
            OracleTests t = new OracleTests(seed);
            t.run();
            if (t.right) {
                passed++;
            } else {
                failed++;
                System.out.println("drawn run " + seed + " went wrong: " + t.told.get(t.told.size() - 1));
                System.out.println("  last told: " + t.told.subList(Math.max(0, t.told.size() - 12), t.told.size()));
            }
        }
        for (int seed = from; seed < from + runs && failed < 5; seed++) {
            OracleTests t = new OracleTests(seed);
            t.mazes();
            if (t.right) {
                passed++;
            } else {
                failed++;
                System.out.println("drawn mazes " + seed + " went wrong: " + t.told);
            }
        }
        System.out.println(passed + " passed, " + failed + " failed");
        System.exit(failed == 0 ? 0 : 1);
    }

    private void run() {
        boolean empty = r.nextInt(12) == 0;
        for (int k = 0; k < 6 && !empty && (m.house.people.size() < 2 || m.house.ways.isEmpty()); k++) {
            house();
        }
        for (int i = 0; i < 480 && right && calls < 460; i++) {
            one(r.nextInt(60));
        }
    }

    /** Houses full of walls and doors: where ways on must be turned off others to see how many there are. */
    private void mazes() {
        for (int i = 0; i < 2 && right; i++) {
            int w = in(3, 9);
            int h = in(3, 9);
            StringBuilder t = new StringBuilder("rug " + w + " " + h + ";person a 1 1 1;");
            java.util.Set<String> told = new java.util.TreeSet<>();
            for (int k = Math.min(30, w * h * in(0, 5) / 10); k > 0; k--) {
                told.add("wall " + r.nextInt(w) + " " + r.nextInt(h) + ";");
            }
            for (int k = 0; k < 6; k++) {
                told.add("door " + r.nextInt(w) + " " + r.nextInt(h) + ";");
            }
            told.forEach(t::append);
            tell(t.toString());
            same("house", x::house, m::house);
            for (int a = 0; a < 6; a++) {
                for (int b = 0; b < 6; b++) {
                    seen(a, b, 4);
                }
            }
            for (int k = 0; k < 20; k++) {
                int at = anyTuft();
                int to = anyTuft();
                same("steps(0," + at + "," + to + ")", () -> x.steps(0, at, to), () -> m.steps(0, at, to));
            }
        }
    }

    private void seen(int a, int b, int most) {
        same("seen(" + a + "," + b + ")", () -> x.seen(a, b), () -> m.seen(a, b));
        for (int i = 0; i < most; i++) {
            int of = i;
            same("lay(" + i + ")", () -> x.lay(of), () -> m.lay(of));
        }
    }

    private static int sure(IntSupplier call) {
        try {
            return call.getAsInt();
        } catch (NoSuchElementException e) {
            return Integer.MIN_VALUE;
        } catch (RuntimeException e) {
            e.printStackTrace(System.out);
            return Integer.MAX_VALUE;
        }
    }

    private void same(String call, IntSupplier got, IntSupplier due) {
        if (!right) {
            return;
        }
        calls++;
        int g = sure(got);
        int d = sure(due);
        told.add(call + " = " + g);
        if (g != d) {
            right = false;
            told.add(call + " answered " + g + ", the model says " + d);
        }
    }

    private void tell(byte[] bytes) {
        for (int i = 0; i < bytes.length; i += 20) {
            int[] five = new int[5];
            for (int k = 0; k < 20; k++) {
                int b = i + k < bytes.length ? bytes[i + k] & 255 : 0;
                five[k / 4] = five[k / 4] << 8 | b;
            }
            same("feed", () -> x.feed(five[0], five[1], five[2], five[3], five[4]), () -> m.feed(five));
        }
        same("end(" + bytes.length + ")", () -> x.end(bytes.length) ? 1 : 0, () -> m.end(bytes.length) ? 1 : 0);
    }

    private void tell(String text) {
        told.add("'" + text + "'");
        byte[] bytes = new byte[Math.min(text.length(), 940)];
        for (int i = 0; i < bytes.length; i++) {
            bytes[i] = (byte) text.charAt(i);
        }
        if (m.count(8) != 0) {
            same("end(0)", () -> x.end(0) ? 1 : 0, () -> m.end(0) ? 1 : 0);
        }
        tell(bytes);
    }

    private int in(int low, int high) {
        return low + r.nextInt(high - low + 1);
    }

    /** Mostly from low to high, now and then beside or far off. */
    private int near(int low, int high) {
        int k = r.nextInt(60);
        return k == 0 ? r.nextInt() : k == 1 ? low - 1 : k == 2 ? high + 1 : high < low ? low : in(low, high);
    }

    private String oneOf(String... of) {
        return of[r.nextInt(of.length)];
    }

    private String blank() {
        return r.nextInt(12) == 0 ? oneOf("  ", "\n", " \n ") : " ";
    }

    private String name(String of) {
        if (broken && r.nextInt(15) == 0) {
            return oneOf("rug", "n", "place", "fade", "zz", "abcdefgh", "abcdefg", "a", "b", "p", "q", "trod", "or");
        }
        return "" + of.charAt(r.nextInt(of.length()));
    }

    private String num(int low, int high) {
        if (broken && r.nextInt(40) == 0) {
            return oneOf("" + (high + 1), "" + (low - 1), "0", "00" + low, "1234", "x", "1x", ";", "999");
        }
        return "" + in(low, high);
    }

    private String spoil(String text) {
        if (!broken || r.nextInt(3) > 0) {
            return text;
        }
        int at = r.nextInt(text.length() + 1);
        String bit = oneOf("", "", ";", " ", "x", "7", "(", ")", "R", ".", "<", "\t", "\0", "\u00ff", "rug", "and");
        int gone = Math.min(text.length() - at, r.nextInt(3));
        return text.substring(0, at) + bit + text.substring(at + gone);
    }

    /** A WAY's X Y and STEPS that mostly stay on the rug. */
    private String along(int w, int h, int many) {
        int x = in(0, w - 1);
        int y = in(0, h - 1);
        StringBuilder t = new StringBuilder(num(x, x) + blank() + num(y, y));
        for (int i = 0; i < many; i++) {
            int dir = r.nextInt(4);
            int far = r.nextInt(6) == 0 ? in(1, 11) : in(1, 3);
            int toX = x + new int[] {0, far, 0, -far}[dir];
            int toY = y + new int[] {-far, 0, far, 0}[dir];
            boolean stays = toX >= 0 && toX < w && toY >= 0 && toY < h;
            if (stays || broken && r.nextInt(60) == 0) {
                t.append(blank()).append("nesw".charAt(dir)).append(blank()).append(num(far, far));
                x = toX;
                y = toY;
            }
        }
        return t.toString();
    }

    /** A house whose WAYS mostly fit it: a WAY that would not is drawn again. */
    private String houseText() {
        StringBuilder t = new StringBuilder();
        int w = in(2, r.nextInt(2) == 0 ? 12 : 5);
        int h = in(2, r.nextInt(2) == 0 ? 12 : 5);
        if (r.nextInt(25) > 0) {
            t.append("rug ").append(num(w, w)).append(blank()).append(num(h, h)).append(";");
        }
        if (r.nextInt(2) == 0) {
            t.append("fade ").append(num(1, 9)).append(blank()).append(";");
        }
        String sorts = "p".repeat(in(0, 7)) + "w".repeat(in(0, 4)) + "y".repeat(in(0, 14))
                + "d".repeat(in(0, 6)) + "w".repeat(r.nextInt(4) == 0 ? in(0, 40) : in(0, 4));
        int people = 0;
        int ways = 0;
        for (int i = 0; i < sorts.length(); i++) {
            String line = line(sorts.charAt(r.nextInt(6) == 0 ? r.nextInt(sorts.length()) : i), w, h, people, ways);
            if (!broken || r.nextInt(8) > 0) {
                Model trial = new Model();
                trial.tape = (t + line + ";").getBytes(java.nio.charset.StandardCharsets.ISO_8859_1);
                if (trial.house() < 0 || t.length() + line.length() > 890 && !broken) {
                    continue;
                }
                people = trial.count(2);
                ways = trial.count(3);
            }
            t.append(line).append(";");
        }
        while (broken && r.nextInt(30) == 0 && t.length() < 905) {
            t.append(" ".repeat(Math.max(0, in(890, 905) - t.length())));
        }
        return spoil(t.toString());
    }

    private String line(char sort, int w, int h, int people, int ways) {
        String at = num(0, w - 1) + blank() + num(0, h - 1);
        if (sort == 'p') {
            char n = people < 6 ? "abcdfg".charAt(people) : 'h';
            return "person " + n + " " + num(1, 9) + " " + num(0, 3) + blank() + num(1, 9);
        }
        if (sort == 'y') {
            String n = r.nextInt(9) == 0 ? name("abpqk") : "" + "pqrtuvx".charAt(Math.min(6, ways));
            return "way " + n + blank() + along(w, h, r.nextInt(9) == 0 ? in(0, 40) : in(0, 9));
        }
        return (sort == 'd' ? "door " : "wall ") + at;
    }

    private void house() {
        tell(houseText());
        same("house", x::house, m::house);
        same("fault", x::fault, () -> m.fault);
        for (int k = 0; k < 9; k++) {
            int what = k;
            same("count(" + k + ")", () -> x.count(what), () -> m.count(what));
        }
    }

    private void walk() {
        List<Model.Person> people = m.house.people;
        String walker = people.isEmpty() ? name("abc") : people.get(r.nextInt(people.size())).name();
        StringBuilder t = new StringBuilder(r.nextInt(12) == 0 ? name("abp") : walker);
        t.append(" ").append(num(0, Math.max(0, m.house.w - 1))).append(" ");
        t.append(num(0, Math.max(0, m.house.h - 1))).append(";");
        int lines = r.nextInt(6) == 0 ? in(0, 34) : in(0, 6);
        for (int i = 0; i < lines; i++) {
            boolean short1 = r.nextInt(3) > 0;
            t.append(oneOf("n", "e", "s", "w")).append(blank()).append(num(1, short1 ? 1 : 11)).append(blank())
                    .append(num(1, oneOf("1", "2", "99").length() == 1 ? 2 : 99)).append(";");
        }
        if (broken && r.nextInt(20) == 0) {
            t.append(" ".repeat(Math.max(0, in(296, 304) - t.length())));
        }
        tell(spoil(t.toString()));
        same("walk", x::walk, m::walk);
        same("fault", x::fault, () -> m.fault);
        for (int k = -1; k < 5; k++) {
            int what = k;
            same("walked(" + k + ")", () -> x.walked(what), () -> m.walked(what));
        }
    }

    private String cond(int budget) {
        int k = r.nextInt(10);
        if (budget <= 0 || k < 4) {
            return r.nextInt(3) == 0 ? "trod " + (m.house.ways.isEmpty() || r.nextInt(40) == 0 ? name("pqa")
                    : m.house.ways.get(r.nextInt(m.house.ways.size())).name())
                    : oneOf("weight", "sole", "pace", "prints", "tufts", "place") + oneOf(" ", "")
                    + oneOf("<", "=", ">") + oneOf(" ", "") + num(0, oneOf("a", "bb").length() == 1 ? 9 : 40);
        }
        if (k < 6) {
            return "not " + cond(budget - 1);
        }
        if (k < 7) {
            return "(" + cond(budget - 1) + ")";
        }
        return cond(budget - 1) + oneOf(" and ", " or ") + cond(budget - 1);
    }

    private void sentence() {
        String t = cond(r.nextInt(5) == 0 ? 10 : 4);
        if (broken && r.nextInt(6) == 0) {
            t = "not ".repeat(in(5, 9)) + t;
        }
        if (broken && r.nextInt(8) == 0) {
            t = t + " ".repeat(Math.max(0, in(197, 203) - t.length()));
        }
        tell(spoil(t));
        same("sentence", x::sentence, m::sentence);
        same("fault", x::fault, () -> m.fault);
        said();
    }

    private void said() {
        for (int k = -1; k < 4; k++) {
            int what = k;
            same("said(" + k + ")", () -> x.said(what), () -> m.said(what));
        }
    }

    private void readings() {
        int many = r.nextInt(10) == 0 ? in(0, 9) : in(1, 3);
        byte[] t = new byte[4 * many + (r.nextInt(20) == 0 ? 1 : 0)];
        int n = m.house.people.size();
        int[] who = new int[m.house.ways.size()];
        for (int i = 0; i < who.length; i++) {
            who[i] = in(-1, n - 1);
        }
        for (int i = 0; i + 3 < t.length; i += 4) {
            int at = anyTuft();
            if (who.length > 0 && r.nextInt(2) == 0) {
                List<Integer> row = m.house.ways.get(r.nextInt(who.length)).tufts();
                at = row.get(r.nextInt(row.size()));
            }
            int depth = 0;
            int sole = 255;
            for (int w = 0; w < who.length; w++) {
                for (int tuft : m.house.ways.get(w).tufts()) {
                    if (tuft == at && who[w] >= 0) {
                        depth += m.house.people.get(who[w]).weight() * m.house.fade;
                        sole = m.house.people.get(who[w]).sole();
                    }
                }
            }
            t[i] = (byte) (at % 12);
            t[i + 1] = (byte) (at / 12);
            t[i + 2] = (byte) (r.nextInt(15) == 0 ? depth + 1 : depth);
            t[i + 3] = (byte) (r.nextInt(25) == 0 ? near(0, 9) : r.nextInt(2) == 0 ? 255 : sole);
        }
        same("end(0)", () -> x.end(0) ? 1 : 0, () -> m.end(0) ? 1 : 0);
        tell(t);
        same("readings " + java.util.Arrays.toString(t), x::readings, m::readings);
        same("fewest", x::fewest, m::fewest);
        read();
    }

    private void read() {
        for (int k = 0; k < 5; k++) {
            int way = near(0, m.house.ways.size() - 1);
            int what = near(0, 1);
            same("read(" + way + "," + what + ")", () -> x.read(way, what), () -> m.read(way, what));
        }
    }

    private int anyTuft() {
        int w = Math.max(1, m.house.w);
        int h = Math.max(1, m.house.h);
        return r.nextInt(40) == 0 ? near(0, 143) : 12 * in(0, h - 1) + in(0, w - 1);
    }

    private int trodTuft() {
        return m.treads.isEmpty() ? anyTuft() : m.treads.get(r.nextInt(m.treads.size())).at();
    }

    private int anyPerson() {
        return near(0, m.house.people.size() - 1);
    }

    private int anyWay() {
        return near(0, m.house.ways.size() - 1);
    }

    private void look() {
        for (int k = 0; k < 6; k++) {
            int at = k > 0 ? trodTuft() : anyTuft();
            int what = near(0, 7);
            same("tuft(" + at + "," + what + ")", () -> x.tuft(at, what), () -> m.tuft(at, what));
            int p = anyPerson();
            int of = near(0, 5);
            same("person(" + p + "," + of + ")", () -> x.person(p, of), () -> m.person(p, of));
        }
    }

    private void one(int kind) {
        int p = anyPerson();
        int q = anyPerson();
        int way = anyWay();
        int other = anyWay();
        int at = r.nextInt(3) > 0 ? trodTuft() : anyTuft();
        int to = anyTuft();
        int k = near(-1, 5);
        switch (kind) {
            case 0 -> {
                if (r.nextInt(3) == 0) {
                    house();
                }
            }
            case 2, 3, 4 -> walk();
            case 5, 6, 7, 8 -> sentence();
            case 9, 10, 11 -> readings();
            case 12 -> read();
            case 13 -> said();
            case 1, 14, 15, 16, 17, 18, 19, 20 -> {
                int soles = r.nextInt(2) == 0 ? p : q;
                same("goes(" + p + "," + way + "," + soles + ")", () -> x.goes(p, way, soles),
                        () -> m.goes(p, way, soles));
                look();
            }
            case 21, 22, 23 -> {
                int n = r.nextInt(6) == 0 ? near(1, 20) : near(1, 2);
                same("days(" + n + ")", () -> x.days(n), () -> m.days(n));
                look();
            }
            case 24, 25, 26 -> {
                if (m.lying().isEmpty() && r.nextInt(3) > 0) {
                    return;
                }
                int corner = r.nextInt(3) == 0 ? to : at;
                same("beat(" + at + "," + corner + ")", () -> x.beat(at, corner), () -> m.beat(at, corner));
                look();
            }
            case 27, 28, 29 -> {
                int n = near(1, r.nextInt(4) == 0 ? 60 : 9);
                int walks = near(1, 9);
                int seed = r.nextInt();
                same("years(" + n + "," + walks + "," + seed + ")", () -> x.years(n, walks, seed),
                        () -> m.years(n, walks, seed));
                look();
            }
            case 30, 31, 32 -> {
                same("undo", x::undo, m::undo);
                look();
            }
            case 33 -> same("image(" + k + ")", () -> x.image(k) ? 1 : 0, () -> m.image(k) ? 1 : 0);
            case 34 -> {
                int place = r.nextInt(2);
                same("image(" + place + ")", () -> x.image(place) ? 1 : 0, () -> m.image(place) ? 1 : 0);
            }
            case 35 -> {
                if (r.nextInt(2) == 0) {
                    return;
                }
                int place = r.nextInt(8) == 0 ? k : r.nextInt(2);
                same("restore(" + place + ")", () -> x.restore(place) ? 1 : 0, () -> m.restore(place) ? 1 : 0);
                look();
                said();
            }
            case 36, 37 -> same("sign(" + p + "," + at + "," + to + ")", () -> x.sign(p, at, to),
                    () -> m.sign(p, at, to));
            case 38, 39 -> same("steps(" + p + "," + at + "," + to + ")", () -> x.steps(p, at, to),
                    () -> m.steps(p, at, to));
            case 40, 41, 42 -> {
                int a = near(0, m.house.doors.size() - 1);
                int b = near(0, m.house.doors.size() - 1);
                seen(a, b, 5);
                int of = near(-1, 4);
                same("lay(" + of + ")", () -> x.lay(of), () -> m.lay(of));
            }
            case 43 -> same("spot", x::spot, m::spot);
            case 44 -> same("ways(" + at + ")", () -> x.ways(at), () -> m.ways(at));
            case 45 -> same("both(" + way + "," + other + ")", () -> x.both(way, other), () -> m.both(way, other));
            case 46 -> same("rarest", x::rarest, m::rarest);
            case 47 -> same("way(" + way + "," + k + ")", () -> x.way(way, k), () -> m.way(way, k));
            case 48, 49 -> same("hidden(" + k + ")", () -> x.hidden(k), () -> m.hidden(k));
            case 50 -> same("missing(" + at + ")", () -> x.missing(at), () -> m.missing(at));
            case 51 -> same("soles(" + k + ")", () -> x.soles(k), () -> m.soles(k));
            case 52 -> same("deepest", x::deepest, m::deepest);
            case 53 -> {
                int depth = r.nextInt(3) == 0 ? near(0, 81) : in(1, 9) * in(1, 9);
                same("who(" + depth + ")", () -> x.who(depth), () -> m.who(depth));
            }
            case 54 -> {
                int depth = r.nextInt(3) == 0 ? near(0, 81) : in(1, 9) * in(1, 9);
                same("age(" + p + "," + depth + ")", () -> x.age(p, depth), () -> m.age(p, depth));
            }
            case 55 -> {
                int what = near(0, 8);
                same("count(" + what + ")", () -> x.count(what), () -> m.count(what));
            }
            case 56 -> {
                int i = near(0, 41);
                same("way(" + way + "," + i + ")", () -> x.way(way, i), () -> m.way(way, i));
            }
            case 57 -> {
                int[] five = {r.nextInt(), r.nextInt(), r.nextInt(), r.nextInt(), r.nextInt()};
                same("feed", () -> x.feed(five[0], five[1], five[2], five[3], five[4]), () -> m.feed(five));
            }
            case 58 -> {
                int n = near(0, m.count(8));
                same("end(" + n + ")", () -> x.end(n) ? 1 : 0, () -> m.end(n) ? 1 : 0);
            }
            default -> look();
        }
    }
}
