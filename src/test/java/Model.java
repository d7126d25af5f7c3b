import java.util.ArrayDeque;
import java.util.ArrayList;
import java.util.Arrays;
import java.util.HashMap;
import java.util.List;
import java.util.Map;
import java.util.PriorityQueue;

/**
 * The document once more, slow and by other means than WellNames: kinds are classes, ways are graphs of all
 * states, texts are read sign by sign and worked out by splitting, images are deep copies.
 */
final class Model {
    static final int LOW = -1000000000;

    static final class Refused extends RuntimeException {
        private static final long serialVersionUID = 1L;
        final int k;

        Refused(int k) {
            super("LOW - " + k, null, false, false);
            this.k = k;
        }
    }

    static Refused beyond() {
        return new Refused(1);
    }

    static Refused none() {
        return new Refused(2);
    }

    static Refused state() {
        return new Refused(3);
    }

    static void ask(boolean so, Refused else_) {
        if (!so) {
            throw else_;
        }
    }

    static void in(long v, long least, long most) {
        ask(v >= least && v <= most, beyond());
    }

    // ---- kinds

    static class Drinker {
        final int m;
        final int n;
        final List<Integer> trace;

        Drinker(int m, int n, List<Integer> trace) {
            this.m = m;
            this.n = n;
            this.trace = trace;
        }

        int limit() {
            return 12;
        }

        int needs(int ofText) {
            return 1;
        }

        int called(int w, int o, int hour) {
            return w;
        }

        int drinks(int x) {
            trace.add(10);
            return x + n;
        }

        int calls(int x) {
            trace.add(11);
            return drinks(x) * 2;
        }

        int owes(int x) {
            trace.add(12);
            return x - m;
        }

        int tells(int x) {
            trace.add(13);
            return calls(x) ^ owes(x);
        }
    }

    static class Flask extends Drinker {
        Flask(int m, int n, List<Integer> trace) {
            super(m, n, trace);
        }

        @Override
        int limit() {
            return super.limit() + m;
        }

        @Override
        int drinks(int x) {
            trace.add(20);
            return super.drinks(x) * 3;
        }
    }

    static class Child extends Drinker {
        Child(int m, int n, List<Integer> trace) {
            super(m, n, trace);
        }

        @Override
        int limit() {
            return 8;
        }

        @Override
        int calls(int x) {
            trace.add(30);
            return super.calls(x) - owes(1);
        }
    }

    static class Camel extends Drinker {
        Camel(int m, int n, List<Integer> trace) {
            super(m, n, trace);
        }

        @Override
        int limit() {
            return super.limit() * 3;
        }

        @Override
        int needs(int ofText) {
            return ofText;
        }

        @Override
        int called(int w, int o, int hour) {
            return hour % 2 == 0 ? super.called(w, o, hour) : o;
        }

        @Override
        int owes(int x) {
            trace.add(40);
            return -super.owes(x);
        }
    }

    static final class Judge extends Flask {
        Judge(int m, int n, List<Integer> trace) {
            super(m, n, trace);
        }

        @Override
        int called(int w, int o, int hour) {
            return o == -1 ? w : o;
        }

        @Override
        int tells(int x) {
            trace.add(50);
            return super.tells(x) - drinks(2);
        }
    }

    static final class Foundling extends Child {
        Foundling(int m, int n, List<Integer> trace) {
            super(m, n, trace);
        }

        @Override
        int limit() {
            return super.limit() + m / 2;
        }

        @Override
        int called(int w, int o, int hour) {
            int so = super.called(w, o, hour);
            return so == o ? -1 : so;
        }

        @Override
        int calls(int x) {
            trace.add(60);
            return super.calls(x + 1);
        }
    }

    static final class Beast extends Camel {
        Beast(int m, int n, List<Integer> trace) {
            super(m, n, trace);
        }

        @Override
        int needs(int ofText) {
            return super.needs(ofText) + m;
        }

        @Override
        int owes(int x) {
            trace.add(70);
            return super.owes(x) ^ n;
        }

        @Override
        int tells(int x) {
            trace.add(71);
            return calls(x) - super.tells(x);
        }
    }

    static final class Somebody {
        int n;
        int kind;
        int m;
        int at;
        int name = -1;
        int thirst;
        boolean dead;

        Drinker body(List<Integer> trace) {
            switch (kind) {
                case 0: return new Drinker(m, n, trace);
                case 1: return new Flask(m, n, trace);
                case 2: return new Child(m, n, trace);
                case 3: return new Camel(m, n, trace);
                case 4: return new Judge(m, n, trace);
                case 5: return new Foundling(m, n, trace);
                default: return new Beast(m, n, trace);
            }
        }

        Drinker body() {
            return body(new ArrayList<>());
        }

        Somebody copy() {
            Somebody s = new Somebody();
            s.n = n;
            s.kind = kind;
            s.m = m;
            s.at = at;
            s.name = name;
            s.thirst = thirst;
            s.dead = dead;
            return s;
        }
    }

    static final class All {
        int[] water = {9, 9, 9, 9, 9, 9, 9, 9};
        Map<Integer, Integer> roads = new HashMap<>();
        Map<Integer, Integer> owed = new HashMap<>();
        List<Somebody> people = new ArrayList<>();
        String[] texts = new String[2];
        String tape = "";
        List<Integer> waiting = new ArrayList<>();
        int rain = 1;
        int hour;
        int day;
        int z = 1;

        All copy() {
            All a = new All();
            a.water = water.clone();
            a.roads = new HashMap<>(roads);
            a.owed = new HashMap<>(owed);
            for (Somebody s : people) {
                a.people.add(s.copy());
            }
            a.texts = texts.clone();
            a.tape = tape;
            a.waiting = new ArrayList<>(waiting);
            a.rain = rain;
            a.hour = hour;
            a.day = day;
            a.z = z;
            return a;
        }
    }

    private All all = new All();
    private All kept;
    private int images;
    private List<Integer> trace = new ArrayList<>();
    private final int[][] sheets = new int[4][];
    private final int[] bits = new int[4];
    private final int[] told = new int[6];

    /** One call by its name; the class's own errors become the document's. */
    int call(String name, long... v) {
        try {
            int[] a = new int[v.length];
            for (int i = 0; i < v.length; i++) {
                a[i] = (int) v[i];
            }
            return answer(name, a, v);
        } catch (Refused r) {
            told[r.k]++;
            return LOW - r.k;
        }
    }

    private int answer(String name, int[] a, long[] v) {
        switch (name) {
            case "water": return water(a[0], a[1]);
            case "road": return road(a[0], a[1], a[2]);
            case "owe": return owe(a[0], a[1], a[2]);
            case "ofWell": return ofWell(a[0], a[1]);
            case "rain": return rain(a[0]);
            case "person": return person(a[0], a[1]);
            case "ofPerson": return ofPerson(a[0], a[1]);
            case "become": return become(a[0], a[1]);
            case "as": return as(a[0], a[1]);
            case "feed": return feed(v[0], a[1]);
            case "text": return text(a[0]);
            case "law": return law(a[0], a[1], a[2], a[3]);
            case "drink": return drink(a[0]);
            case "go": return go(a[0], a[1]);
            case "pay": return pay(a[0], a[1], a[2]);
            case "days": return days(a[0], 60, false);
            case "loose": return days(a[0], 40, true);
            case "same": return same();
            case "soonest": return fewest(a[0], a[1], a[2], true);
            case "drinks": return fewest(a[0], a[1], a[2], false);
            case "reach": return reach(a[0], a[1], a[2]);
            case "dry": return dry(a[0], a[1]);
            case "net": return net();
            case "shortest": return shortest(a[0], a[1]);
            case "walked": return walked(a[0]);
            case "alive": return alive(a[0], a[1], a[2]);
            case "grown": return grown(a[0], a[1], a[2]);
            case "seed": return seed(a[0]);
            case "voice": return voice(a[0], a[1], a[2]);
            case "trace": return trace(a[0]);
            case "sheet": return sheet(a[0], a[1], a[2]);
            case "put": return put(a[0], a[1], a[2]);
            case "move": return move(a[0], a[1], a[2], a[3], a[4]);
            case "waters": return waters(a[0]);
            case "judge": return judge(a[0]);
            case "image": return image();
            case "restore": return restore();
            case "tell": return tell(a[0]);
            case "check": return check();
            case "count": return count(a[0]);
            case "told": return told(a[0]);
            default: throw new IllegalStateException(name);
        }
    }

    // ---- wells, roads, people

    private int water(int well, int v) {
        in(well, 0, 7);
        in(v, 0, 99);
        int was = all.water[well];
        all.water[well] = v;
        return was;
    }

    private static int pair(int a, int b) {
        return Math.min(a, b) * 10 + Math.max(a, b);
    }

    private int length(int a, int b) {
        return all.roads.getOrDefault(pair(a, b), 0);
    }

    private int road(int a, int b, int length) {
        in(a, 0, 7);
        in(b, 0, 7);
        in(length, 0, 20);
        ask(a != b, beyond());
        int was = length(a, b);
        all.roads.put(pair(a, b), length);
        return was;
    }

    private int owe(int a, int b, int v) {
        in(a, 0, 7);
        in(b, 0, 7);
        in(v, 0, 9999);
        ask(a != b, beyond());
        int was = all.owed.getOrDefault(a * 10 + b, 0);
        all.owed.put(a * 10 + b, v);
        return was;
    }

    private int debt(int name) {
        return all.owed.entrySet().stream().filter(e -> e.getKey() / 10 == name).mapToInt(Map.Entry::getValue).sum();
    }

    private int ofWell(int well, int what) {
        in(well, 0, 7);
        in(what, 0, 4);
        int set = 0;
        for (Somebody s : all.people) {
            if (!s.dead && (what == 2 ? s.name : s.at) == well) {
                set += 1 << s.n;
            }
        }
        int roads = 0;
        for (int to = 0; to < 8; to++) {
            roads += length(well, to) > 0 ? 1 : 0;
        }
        return what == 0 ? all.water[well] : what == 1 ? roads : what == 4 ? debt(well) : set;
    }

    private int rain(int v) {
        in(v, 0, 9);
        int was = all.rain;
        all.rain = v;
        return was;
    }

    private Somebody who(int person) {
        in(person, 0, all.people.size() - 1);
        return all.people.get(person);
    }

    private int person(int km, int well) {
        in(km, 0, 69);
        in(well, 0, 7);
        ask(all.people.size() < 6, new Refused(4));
        Somebody s = new Somebody();
        s.n = all.people.size();
        s.kind = km / 10;
        s.m = km % 10;
        s.at = well;
        all.people.add(s);
        return s.n;
    }

    private int needs(Somebody s, int thirst) {
        return s.body().needs(gives(0, s.m, thirst, all.day));
    }

    private int ofPerson(int person, int what) {
        Somebody s = who(person);
        in(what, 0, 8);
        int owes = s.name < 0 ? 0 : debt(s.name);
        int[] of = {s.kind, s.m, s.at, s.name, s.thirst, s.dead ? 1 : 0, s.body().limit(), needs(s, s.thirst), owes};
        return of[what];
    }

    private int become(int person, int km) {
        Somebody s = who(person);
        in(km, 0, 69);
        int was = s.kind;
        s.kind = km / 10;
        s.m = km % 10;
        return was;
    }

    private int as(int person, int kind) {
        Somebody s = who(person);
        in(kind, 0, 6);
        Class<?>[] kinds = {Drinker.class, Flask.class, Child.class, Camel.class, Judge.class, Foundling.class,
            Beast.class};
        ask(kinds[kind].isInstance(s.body()), new Refused(5));
        return s.m;
    }

    // ---- texts

    private int feed(long word, int n) {
        in(n, 1, 8);
        ask(all.tape.length() + n <= 50, new Refused(4));
        for (int i = 0; i < n; i++) {
            all.tape += (char) (word & 255);
            word >>= 8;
        }
        return all.tape.length();
    }

    private static final String[] NAMES = {"mtd", "lmd"};

    /** Signs are read one by one; what is open is a stack, each level with the sign and whether it has compared. */
    static int fault(String tape, String names) {
        ArrayDeque<Character> open = new ArrayDeque<>();
        ArrayDeque<Boolean> compared = new ArrayDeque<>();
        compared.push(false);
        int digits = 0;
        boolean wanting = true;
        for (int i = 0; i < tape.length(); i++) {
            char c = tape.charAt(i);
            if (wanting) {
                if (c == '!' || c == '(') {
                    if (open.size() == 5) {
                        return i;
                    }
                    open.push(c);
                    if (c == '(') {
                        compared.push(false);
                    }
                    continue;
                }
                if (names.indexOf(c) < 0 && !(c >= '0' && c <= '9')) {
                    return i;
                }
                digits = c >= '0' && c <= '9' ? 1 : 9;
                wanting = false;
                close(open);
                continue;
            }
            if (c >= '0' && c <= '9' && digits < 4) {
                digits++;
            } else if (c == ')' && !open.isEmpty()) {
                open.pop();
                compared.pop();
                close(open);
                digits = 9;
            } else if ("<=>".indexOf(c) >= 0 && !compared.peek()) {
                compared.pop();
                compared.push(true);
                wanting = true;
            } else if ("|&".indexOf(c) >= 0) {
                compared.pop();
                compared.push(false);
                wanting = true;
            } else if ("+-*/%".indexOf(c) >= 0) {
                wanting = true;
            } else {
                return i;
            }
        }
        return wanting || !open.isEmpty() ? tape.length() : -1;
    }

    private static void close(ArrayDeque<Character> open) {
        while (!open.isEmpty() && open.peek() == '!') {
            open.pop();
        }
    }

    private int text(int use) {
        in(use, 0, 1);
        String tape = all.tape;
        all.tape = "";
        int fault = fault(tape, NAMES[use]);
        if (fault >= 0) {
            return -10 - fault;
        }
        all.texts[use] = tape;
        return 1;
    }

    /** Splits at the last sign of the lowest rank that stands outside all brackets. */
    static int worth(String text, String names, int... values) {
        for (String rank : new String[] {"|", "&", "<=>", "+-", "*/%"}) {
            int depth = 0;
            for (int i = text.length() - 1; i > 0; i--) {
                char c = text.charAt(i);
                depth += c == ')' ? 1 : c == '(' ? -1 : 0;
                if (depth == 0 && rank.indexOf(c) >= 0) {
                    int a = worth(text.substring(0, i), names, values);
                    int b = worth(text.substring(i + 1), names, values);
                    return joined(c, a, b);
                }
            }
        }
        if (text.charAt(0) == '!') {
            return worth(text.substring(1), names, values) == 0 ? 1 : 0;
        }
        if (text.charAt(0) == '(') {
            return worth(text.substring(1, text.length() - 1), names, values);
        }
        int name = names.indexOf(text.charAt(0));
        return name >= 0 ? values[name] : Integer.parseInt(text);
    }

    private static int joined(char sign, int a, int b) {
        long wide;
        switch (sign) {
            case '|': return (a != 0 ? 1 : 0) | (b != 0 ? 1 : 0);
            case '&': return (a != 0 ? 1 : 0) & (b != 0 ? 1 : 0);
            case '<': return a < b ? 1 : 0;
            case '=': return a == b ? 1 : 0;
            case '>': return a > b ? 1 : 0;
            case '+': wide = (long) a + b; break;
            case '-': wide = (long) a - b; break;
            case '*': wide = (long) a * b; break;
            case '/': wide = b == 0 ? 0 : (long) a / b; break;
            default: wide = b == 0 ? 0 : (long) a % b; break;
        }
        return (int) wide;
    }

    private int gives(int use, int... abc) {
        String text = all.texts[use];
        int v = text != null ? worth(text, NAMES[use], abc) : use == 0 ? 1 + abc[1] / 4 : abc[0];
        return v < 0 ? 0 : v > 99 ? 99 : v;
    }

    private int law(int use, int a, int b, int c) {
        in(use, 0, 1);
        return gives(use, a, b, c);
    }

    // ---- drinks, ways, days

    private int drink(int person) {
        Somebody s = who(person);
        ask(!s.dead, state());
        int need = needs(s, s.thirst);
        ask(all.water[s.at] >= need, state());
        all.water[s.at] -= need;
        s.thirst = 0;
        s.name = s.body().called(s.at, s.name, all.hour);
        return s.name;
    }

    private int go(int person, int well) {
        Somebody s = who(person);
        in(well, 0, 7);
        ask(well != s.at, beyond());
        int length = length(s.at, well);
        ask(!s.dead && length > 0 && all.hour + length <= 99999, state());
        s.at = well;
        s.thirst += gives(1, length, s.m, all.day);
        all.hour += length;
        s.dead = s.thirst > s.body().limit();
        return s.thirst;
    }

    private int pay(int person, int name, int v) {
        Somebody s = who(person);
        in(name, 0, 7);
        in(v, 1, 9999);
        ask(name != s.name, beyond());
        ask(!s.dead && s.name >= 0, state());
        int left = all.owed.getOrDefault(s.name * 10 + name, 0) - v;
        ask(left >= 0, state());
        all.owed.put(s.name * 10 + name, left);
        return left;
    }

    private int draw() {
        all.z = all.z * 1103515245 + 12345;
        return all.z >>> 8;
    }

    private void aDay() {
        for (int well = 0; well < 8; well++) {
            all.water[well] = Math.min(99, all.water[well] + all.rain);
        }
        for (Somebody s : all.people) {
            if (!s.dead) {
                s.thirst++;
                s.dead = s.thirst > s.body().limit();
            }
        }
        all.day++;
        all.hour++;
    }

    private int dead() {
        return (int) all.people.stream().filter(s -> s.dead).count();
    }

    private int days(int n, int most, boolean loose) {
        in(n, 1, most);
        ask(all.day + n <= 9999 && all.hour + n <= 99999, state());
        for (int i = 0; i < n; i++) {
            if (loose) {
                int well = draw() % 8;
                all.water[well] = draw() % 20;
            }
            aDay();
        }
        return dead();
    }

    private int same() {
        int pairs = 0;
        for (Somebody a : all.people) {
            for (Somebody b : all.people) {
                pairs += a.n < b.n && !a.dead && !b.dead && a.name == b.name && a.name != -1 ? 1 : 0;
            }
        }
        return pairs;
    }

    // ---- what would be

    private boolean mayDrink(Somebody s, int well, int barred) {
        return all.water[well] >= needs(s, 0) && (barred >> well & 1) == 0;
    }

    /** Of all states (well, thirst) that one can be alive in, the least hours, or the least drinks ahead. */
    private Map<Integer, Integer> states(Somebody s, int barred, boolean byHours) {
        Map<Integer, Integer> found = new HashMap<>();
        PriorityQueue<int[]> next = new PriorityQueue<>((p, q) -> Integer.compare(p[0], q[0]));
        next.add(new int[] {0, s.at, s.thirst});
        while (!next.isEmpty()) {
            int[] p = next.remove();
            if (found.putIfAbsent(p[1] * 1000 + p[2], p[0]) != null) {
                continue;
            }
            if (mayDrink(s, p[1], barred)) {
                next.add(new int[] {p[0] + (byHours ? 0 : 1), p[1], 0});
            }
            for (int to = 0; to < 8; to++) {
                int length = length(p[1], to);
                int thirst = length == 0 ? 0 : p[2] + gives(1, length, s.m, all.day);
                if (length > 0 && thirst <= s.body().limit()) {
                    next.add(new int[] {p[0] + (byHours ? length : 0), to, thirst});
                }
            }
        }
        return found;
    }

    private int fewest(int person, int well, int barred, boolean byHours) {
        Somebody s = who(person);
        in(well, 0, 7);
        in(barred, 0, 255);
        ask(!s.dead, state());
        if (s.name == well) {
            return 0;
        }
        ask(mayDrink(s, well, barred), none());
        int best = Integer.MAX_VALUE;
        for (Map.Entry<Integer, Integer> e : states(s, barred, byHours).entrySet()) {
            if (e.getKey() / 1000 == well) {
                best = Math.min(best, e.getValue() + (byHours ? 0 : 1));
            }
        }
        ask(best < Integer.MAX_VALUE, none());
        return best;
    }

    private int reached(Somebody s, int barred) {
        int set = 0;
        for (int key : states(s, barred, true).keySet()) {
            set |= 1 << key / 1000;
        }
        return set;
    }

    private int reach(int person, int barred, int what) {
        Somebody s = who(person);
        in(barred, 0, 255);
        in(what, 0, 1);
        ask(!s.dead, state());
        int set = reached(s, barred);
        for (int well = 0; well < 8 && what == 1; well++) {
            set = mayDrink(s, well, barred) ? set : set & ~(1 << well);
        }
        return set;
    }

    private int dry(int person, int what) {
        Somebody s = who(person);
        in(what, 0, 1);
        ask(!s.dead, state());
        int best = 8 * 8;
        for (int well = 0; well < 8; well++) {
            int others = 0;
            for (int other = 0; other < 8; other++) {
                others += other != well && (reached(s, 1 << well) >> other & 1) == 1 ? 1 : 0;
            }
            best = Math.min(best, others * 8 + well);
        }
        return what == 0 ? best % 8 : best / 8;
    }

    private int net() {
        List<int[]> roads = new ArrayList<>();
        all.roads.forEach((k, length) -> {
            if (length > 0) {
                roads.add(new int[] {length, k / 10, k % 10});
            }
        });
        roads.sort((p, q) -> Integer.compare(p[0], q[0]));
        int[] of = {0, 1, 2, 3, 4, 5, 6, 7};
        int sum = 0;
        for (int[] r : roads) {
            int a = of[r[1]];
            int b = of[r[2]];
            if (a != b) {
                sum += r[0];
                for (int i = 0; i < 8; i++) {
                    of[i] = of[i] == b ? a : of[i];
                }
            }
        }
        ask(Arrays.stream(of).distinct().count() == 1, none());
        return sum;
    }

    private int shortest(int a, int b) {
        in(a, 0, 7);
        in(b, 0, 7);
        int[][] d = new int[8][8];
        for (int i = 0; i < 8; i++) {
            for (int j = 0; j < 8; j++) {
                d[i][j] = i == j ? 0 : length(i, j) > 0 ? length(i, j) : 1000;
            }
        }
        for (int k = 0; k < 8; k++) {
            for (int i = 0; i < 8; i++) {
                for (int j = 0; j < 8; j++) {
                    d[i][j] = Math.min(d[i][j], d[i][k] + d[k][j]);
                }
            }
        }
        ask(d[a][b] < 1000, none());
        return d[a][b];
    }

    private int walked(int sheet) {
        in(sheet, 0, 3);
        int[] row = sheets[sheet];
        ask(row != null && row.length > 0, none());
        for (int well : row) {
            ask(well >= 0 && well <= 7, none());
        }
        int hours = 0;
        for (int i = 1; i < row.length; i++) {
            ask(row[i] == row[i - 1] || length(row[i], row[i - 1]) > 0, none());
            hours += length(row[i], row[i - 1]);
        }
        return hours;
    }

    private int alive(int sheet, int person, int set) {
        in(sheet, 0, 3);
        Somebody s = who(person);
        in(set, 0, 255);
        walked(sheet);
        int[] row = sheets[sheet];
        int thirst = 0;
        for (int i = 1; i < row.length; i++) {
            if (row[i] != row[i - 1]) {
                thirst += gives(1, length(row[i], row[i - 1]), s.m, all.day);
            }
            if (thirst > s.body().limit()) {
                return 0;
            }
            thirst = (set >> row[i] & 1) == 1 ? 0 : thirst;
        }
        return 1;
    }

    private int grown(int name, int n, int p) {
        in(name, 0, 7);
        in(n, 0, 100);
        in(p, 0, 20);
        int sum = 0;
        for (int b = 0; b < 8; b++) {
            int v = all.owed.getOrDefault(name * 10 + b, 0);
            for (int i = 0; i < n; i++) {
                v += v * p / 100;
                v = Math.min(v, 9999);
            }
            sum += v;
        }
        return sum;
    }

    // ---- draws, voices, sheets, images, what is told

    private int seed(int v) {
        int was = all.z;
        all.z = v;
        return was;
    }

    private int voice(int person, int act, int x) {
        Somebody s = who(person);
        in(act, 0, 3);
        trace = new ArrayList<>();
        Drinker d = s.body(trace);
        return act == 0 ? d.drinks(x) : act == 1 ? d.calls(x) : act == 2 ? d.owes(x) : d.tells(x);
    }

    private int trace(int i) {
        ask(i >= 0 && i < Math.min(40, trace.size()), none());
        return trace.get(i);
    }

    private int sheet(int sheet, int b, int n) {
        in(sheet, 0, 3);
        ask(b == 0 || b == 8 || b == 16 || b == 32, beyond());
        if (b == 0) {
            sheets[sheet] = null;
            return 1;
        }
        ask(n >= 0, state());
        in(n, 0, 40);
        sheets[sheet] = new int[n];
        bits[sheet] = b;
        return 1;
    }

    private int[] row(int sheet) {
        in(sheet, 0, 3);
        ask(sheets[sheet] != null, none());
        return sheets[sheet];
    }

    private int put(int sheet, int i, int v) {
        int[] row = row(sheet);
        in(i, 0, row.length - 1);
        int cut = 32 - bits[sheet];
        row[i] = v << cut >> cut;
        return 1;
    }

    private int move(int sheet, int i, int other, int j, int n) {
        in(sheet, 0, 3);
        in(other, 0, 3);
        int[] from = row(sheet);
        int[] to = row(other);
        ask(bits[sheet] == bits[other], new Refused(5));
        ask(n >= 0 && i >= 0 && j >= 0, beyond());
        ask((long) i + n <= from.length && (long) j + n <= to.length, beyond());
        int[] were = from.clone();
        for (int k = 0; k < n; k++) {
            to[j + k] = were[i + k];
        }
        return n;
    }

    private int waters(int sheet) {
        int[] row = row(sheet);
        int i = 0;
        while (i < row.length && i < 8 && row[i] >= 0 && row[i] <= 99) {
            all.water[i] = row[i];
            i++;
        }
        return i;
    }

    private int judge(int sheet) {
        int[] row = row(sheet);
        for (int i = 0; i < row.length || i < all.people.size(); i++) {
            if (i >= row.length || i >= all.people.size() || all.people.get(i).name != row[i]) {
                return i;
            }
        }
        return -1;
    }

    private int image() {
        kept = all.copy();
        return ++images;
    }

    private int restore() {
        ask(kept != null, none());
        all = kept.copy();
        return all.hour;
    }

    private int tell(int v) {
        ask(all.waiting.size() < 20, new Refused(4));
        all.waiting.add(v);
        return all.waiting.size();
    }

    private int check() {
        List<Integer> waiting = all.waiting;
        all.waiting = new ArrayList<>();
        All now = all.copy();
        int answer = 0;
        for (int i = 0; i < waiting.size() && answer == 0; i++) {
            aDay();
            answer = waiting.get(i) == dead() ? 0 : i + 1;
        }
        all = now;
        return answer;
    }

    private int count(int what) {
        in(what, 0, 10);
        int water = Arrays.stream(all.water).sum();
        int owed = all.owed.values().stream().mapToInt(v -> v).sum();
        int[] of = {all.people.size(), all.hour, all.day, dead(), water, all.rain, owed, all.tape.length(),
            all.waiting.size(), Math.min(40, trace.size()), all.z};
        return of[what];
    }

    private int told(int k) {
        in(k, 1, 5);
        return told[k];
    }
}
