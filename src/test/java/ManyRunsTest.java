import java.util.ArrayList;
import java.util.List;
import java.util.Random;

/** Runs of 512 calls, drawn from fixed seeds, against the model; also calls with numbers from far out. */
public final class ManyRunsTest {
    private static final int RUNS = 600;
    private static final int CALLS = 512;

    public static void main(String[] args) {
        int runs = args.length > 0 ? Integer.parseInt(args[0]) : RUNS;
        int wrong = 0;
        for (int seed = 0; seed < runs && wrong < 5; seed++) {
            wrong += new Run(seed).wrong();
        }
        System.out.println("ManyRunsTest: " + runs + " runs, " + wrong + " with an answer that the model doesn't give");
        if (wrong > 0) {
            System.exit(1);
        }
    }

    private static final class Run {
        private static final String[] NAMES = {
            "water", "road", "owe", "ofWell", "rain", "person", "ofPerson", "become", "as", "feed", "text", "law",
            "drink", "go", "pay", "days", "loose", "same", "soonest", "drinks", "reach", "dry", "net", "shortest",
            "walked", "alive", "grown", "seed", "voice", "trace", "sheet", "put", "move", "waters", "judge", "image",
            "restore", "tell", "check", "count", "told",
        };
        private static final String[] TEXTS = {
            "m", "d", "t/4+1", "l-m", "l", "l*(l<9)", "0", "l/2", "t+m*2", "l>5&m<7|d=3", "!m", "(l+m)/3", "2",
            "l-d%3", "m-t", "l*2", "5%m", "12*(t>m)", "!(!(!m))", "1<2<3", "((((((1))))))", "12345", "m+", "(l", "l)",
            "!!!!!!l", "t", "m/(d-2)", "9999*9999*l", "1-2",
        };
        private final Random random;
        private final int seed;
        private final WellNames x = new WellNames();
        private final Model y = new Model();
        private final int[] weights = new int[NAMES.length];
        private final boolean wild;
        private final boolean kindToPeople;
        private final int longest;

        Run(int seed) {
            this.seed = seed;
            random = new Random(seed);
            wild = seed % 7 == 0;
            kindToPeople = seed % 3 != 0;
            longest = new int[] {3, 8, 20}[random.nextInt(3)];
            for (int i = 0; i < weights.length; i++) {
                weights[i] = random.nextInt(3) * random.nextInt(4);
            }
        }

        int wrong() {
            List<String> done = new ArrayList<>();
            prepare(done);
            for (int i = 0; done.size() < CALLS && i < 100 * CALLS; i++) {
                if (!oneCall(done)) {
                    System.out.println("seed " + seed + ", the last of " + done.size() + " calls:");
                    for (String call : done.subList(Math.max(0, done.size() - 12), done.size())) {
                        System.out.println("  " + call);
                    }
                    return 1;
                }
            }
            return 0;
        }

        private void prepare(List<String> done) {
            for (int i = random.nextInt(random.nextBoolean() ? 20 : 80); i > 0; i--) {
                same(done, "road", random.nextInt(8), random.nextInt(8), random.nextInt(longest + 1));
            }
            for (int i = random.nextInt(9); i > 0; i--) {
                same(done, "person", random.nextInt(70), random.nextInt(8));
            }
            for (int well = 0; well < 8 && random.nextBoolean(); well++) {
                same(done, "water", random.nextInt(8), random.nextInt(6));
            }
        }

        private boolean oneCall(List<String> done) {
            if (random.nextInt(16) == 0) {
                return aText(done);
            }
            if (random.nextInt(40) == 0) {
                return aWalk(done);
            }
            int i = random.nextInt(NAMES.length);
            if (random.nextInt(6) >= weights[i]) {
                return true;
            }
            String name = NAMES[i];
            if ((name.equals("days") || name.equals("loose")) && kindToPeople) {
                return random.nextInt(4) > 0 || same(done, name, 1 + random.nextInt(2));
            }
            return same(done, name, arguments(name));
        }

        private boolean aWalk(List<String> done) {
            int size = 1 + random.nextInt(6);
            int sheet = random.nextInt(4);
            boolean so = same(done, "sheet", sheet, 8 << random.nextInt(3), size);
            for (int i = 0; i < size && so; i++) {
                so = same(done, "put", sheet, i, random.nextInt(8));
            }
            so = so && same(done, "walked", sheet);
            return so && same(done, "alive", sheet, random.nextInt(6), random.nextInt(256));
        }

        private boolean aText(List<String> done) {
            String text = random.nextInt(3) > 0 ? TEXTS[random.nextInt(TEXTS.length)] : drawnText();
            boolean so = true;
            for (int i = 0; i < text.length() && so; i += 8) {
                long word = 0;
                int n = Math.min(8, text.length() - i);
                for (int k = 0; k < n; k++) {
                    word |= (long) text.charAt(i + k) << (8 * k);
                }
                so = same(done, "feed", word, n);
            }
            return so && same(done, "text", random.nextInt(2));
        }

        private String drawnText() {
            String signs = "mtdl0123456789mmddd!!((()))|&<=>+-*/%";
            StringBuilder b = new StringBuilder();
            int mode = random.nextInt(3);
            for (int i = random.nextInt(30); i >= 0; i--) {
                boolean operand = mode > 0 && b.length() % 2 == 0;
                b.append(operand ? "mdt9l!(".charAt(random.nextInt(mode == 1 ? 4 : 7))
                    : mode == 1 ? "|&<=>+-*/%".charAt(random.nextInt(10)) : signs.charAt(random.nextInt(signs.length())));
            }
            return b.toString();
        }

        private long[] arguments(String name) {
            switch (name) {
                case "same": case "net": case "image": case "restore": case "check":
                    return new long[0];
                case "water": return of(8, 100);
                case "road": return of(8, 8, longest + 1);
                case "owe": return of(8, 8, random.nextInt(4) > 0 ? 10000 : 30);
                case "ofWell": return of(8, 5);
                case "rain": return of(10);
                case "person": return of(70, 8);
                case "ofPerson": return of(6, 9);
                case "become": return of(6, 70);
                case "as": return of(6, 7);
                case "feed": return new long[] {random.nextLong(), odd(9)};
                case "text": return of(2);
                case "law": return of(2, 40, 40, 40);
                case "drink": return of(6);
                case "go": return of(6, 8);
                case "pay": return of(6, 8, random.nextInt(4) == 0 ? 10000 : 9);
                case "days": return of(61);
                case "loose": return of(41);
                case "soonest": case "drinks": return of(6, 8, random.nextBoolean() ? 1 : 256);
                case "reach": return of(6, random.nextBoolean() ? 1 : 256, 2);
                case "dry": return of(6, 2);
                case "shortest": return of(8, 8);
                case "grown": return of(8, 101, 21);
                case "seed": case "tell": return of(random.nextBoolean() ? 7 : Integer.MAX_VALUE);
                case "voice": return of(6, 4, random.nextBoolean() ? 100 : Integer.MAX_VALUE);
                case "trace": return of(11);
                case "count": return of(11);
                case "told": return of(6);
                default: return sheets(name);
            }
        }

        private long[] sheets(String name) {
            switch (name) {
                case "sheet": return new long[] {odd(4), odd(5) * 8 % 40, odd(random.nextBoolean() ? 41 : 6)};
                case "put": return new long[] {odd(4), odd(random.nextBoolean() ? 41 : 6), odd(random.nextBoolean() ? 8 : 300) - random.nextInt(2)};
                case "move": return of(4, 8, 4, 8, 8);
                case "alive": return of(4, 6, 256);
                default: return of(4);
            }
        }

        private long[] of(int... bounds) {
            long[] v = new long[bounds.length];
            for (int i = 0; i < v.length; i++) {
                v[i] = odd(bounds[i]);
            }
            return v;
        }

        private long odd(int bound) {
            int way = random.nextInt(wild ? 10 : 60);
            if (way == 0) {
                return new int[] {-1, bound, Integer.MIN_VALUE, Integer.MAX_VALUE, -bound, bound + 1}[random.nextInt(6)];
            }
            return way == 1 ? 0 : way == 2 ? bound - 1 : random.nextInt(bound);
        }

        private boolean same(List<String> done, String name, long... v) {
            StringBuilder call = new StringBuilder(name).append('(');
            for (int i = 0; i < v.length; i++) {
                call.append(i == 0 ? "" : ", ").append(v[i]);
            }
            int want = y.call(name, v);
            int got = Calls.call(x, name, v);
            done.add(call + ") answered " + got + ", the model " + want);
            return got == want;
        }
    }
}
