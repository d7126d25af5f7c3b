import java.util.Arrays;

/** Wells of names: whoever drinks is called by the well he has drunk from. */
public final class WellNames {
    private static final int LOW = -1000000000;
    private static final int BEYOND = 1;
    private static final int NONE = 2;
    private static final int STATE = 3;
    private static final int FULL = 4;
    private static final int KIND = 5;

    private static final int WELLS = 8;
    private static final int ALL_WELLS = 255;
    private static final int NOBODY = -1;
    private static final int MOST_PEOPLE = 6;
    private static final int MOST_WATER = 99;
    private static final int MOST_LENGTH = 20;
    private static final int MOST_OWED = 9999;
    private static final int MOST_HOUR = 99999;
    private static final int MOST_DAY = 9999;
    private static final int MOST_TAPE = 50;
    private static final int MOST_WAITING = 20;
    private static final int SHEETS = 4;
    private static final int MOST_NUMBERS = 40;

    private static final int DRINKER = 0;
    private static final int FLASK = 1;
    private static final int CHILD = 2;
    private static final int CAMEL = 3;
    private static final int JUDGE = 4;
    private static final int FOUNDLING = 5;
    private static final int BEAST = 6;
    private static final int KINDS = 7;
    private static final int[] KIND_ABOVE = {-1, DRINKER, DRINKER, DRINKER, FLASK, CHILD, CAMEL};

    private static final int NEEDS = 0;
    private static final int PARCHED = 1;
    private static final int USES = 2;

    private final World world = new World();
    private final World kept = new World();
    private final Ways ways = new Ways();
    private final Reader reader = new Reader();
    private final Voices voices = new Voices();
    private final Sheet[] sheets = new Sheet[SHEETS];
    private final int[] refused = new int[KIND + 1];
    private int images;

    public WellNames() {
        for (int i = 0; i < SHEETS; i++) {
            sheets[i] = new Sheet();
        }
    }

    // ---- wells, roads, people

    public int water(int well, int v) {
        if (!isWell(well) || !within(v, 0, MOST_WATER)) {
            return refuse(BEYOND);
        }
        int was = world.water[well];
        world.water[well] = v;
        return was;
    }

    public int road(int a, int b, int length) {
        if (!areTwoWells(a, b) || !within(length, 0, MOST_LENGTH)) {
            return refuse(BEYOND);
        }
        int was = world.roads[a * WELLS + b];
        world.roads[a * WELLS + b] = length;
        world.roads[b * WELLS + a] = length;
        return was;
    }

    public int owe(int a, int b, int v) {
        if (!areTwoWells(a, b) || !within(v, 0, MOST_OWED)) {
            return refuse(BEYOND);
        }
        int was = world.owed[a * WELLS + b];
        world.owed[a * WELLS + b] = v;
        return was;
    }

    public int ofWell(int well, int what) {
        if (!isWell(well)) {
            return refuse(BEYOND);
        }
        switch (what) {
            case 0:
                return world.water[well];
            case 1:
                return world.roadsFrom(well);
            case 2:
                return world.namedBy(well);
            case 3:
                return world.standingAt(well);
            case 4:
                return world.debtOf(well);
            default:
                return refuse(BEYOND);
        }
    }

    public int rain(int v) {
        if (!within(v, 0, 9)) {
            return refuse(BEYOND);
        }
        int was = world.rain;
        world.rain = v;
        return was;
    }

    public int person(int km, int well) {
        if (!isKindWithNumber(km) || !isWell(well)) {
            return refuse(BEYOND);
        }
        if (world.people >= MOST_PEOPLE) {
            return refuse(FULL);
        }
        world.persons[world.people].begin(km / 10, km % 10, well);
        world.people++;
        return world.people - 1;
    }

    public int ofPerson(int person, int what) {
        if (!isPerson(person)) {
            return refuse(BEYOND);
        }
        Person p = world.persons[person];
        switch (what) {
            case 0:
                return p.kind;
            case 1:
                return p.m;
            case 2:
                return p.at;
            case 3:
                return p.name;
            case 4:
                return p.thirst;
            case 5:
                return p.dead ? 1 : 0;
            case 6:
                return p.limit();
            case 7:
                return world.needs(p, p.thirst);
            case 8:
                return world.debtOf(p.name);
            default:
                return refuse(BEYOND);
        }
    }

    public int become(int person, int km) {
        if (!isPerson(person) || !isKindWithNumber(km)) {
            return refuse(BEYOND);
        }
        Person p = world.persons[person];
        int was = p.kind;
        p.kind = km / 10;
        p.m = km % 10;
        return was;
    }

    public int as(int person, int kind) {
        if (!isPerson(person) || !within(kind, 0, KINDS - 1)) {
            return refuse(BEYOND);
        }
        Person p = world.persons[person];
        return p.isOf(kind) ? p.m : refuse(KIND);
    }

    // ---- texts

    public int feed(long word, int n) {
        if (!within(n, 1, 8)) {
            return refuse(BEYOND);
        }
        if (world.fed + n > MOST_TAPE) {
            return refuse(FULL);
        }
        for (int i = 0; i < n; i++) {
            world.tape[world.fed + i] = (int) (word >>> (8 * i)) & 255;
        }
        world.fed += n;
        return world.fed;
    }

    public int text(int use) {
        if (!isUse(use)) {
            return refuse(BEYOND);
        }
        int fault = reader.read(world.tape, world.fed, use);
        world.fed = 0;
        if (fault >= 0) {
            return -10 - fault;
        }
        world.laws[use].take(reader.code, reader.coded);
        return 1;
    }

    public int law(int use, int a, int b, int c) {
        return isUse(use) ? world.laws[use].gives(a, b, c) : refuse(BEYOND);
    }

    // ---- drinks, ways, days

    public int drink(int person) {
        if (!isPerson(person)) {
            return refuse(BEYOND);
        }
        Person p = world.persons[person];
        int need = world.needs(p, p.thirst);
        if (p.dead || world.water[p.at] < need) {
            return refuse(STATE);
        }
        world.water[p.at] -= need;
        p.thirst = 0;
        p.name = p.called(world.hour);
        return p.name;
    }

    public int go(int person, int well) {
        if (!isPerson(person) || !isWell(well) || world.persons[person].at == well) {
            return refuse(BEYOND);
        }
        Person p = world.persons[person];
        int length = world.roads[p.at * WELLS + well];
        if (p.dead || length == 0 || world.hour + length > MOST_HOUR) {
            return refuse(STATE);
        }
        p.at = well;
        p.thirsts(world.parched(p, length));
        world.hour += length;
        return p.thirst;
    }

    public int pay(int person, int name, int v) {
        if (!isPerson(person) || !isWell(name) || !within(v, 1, MOST_OWED)
                || world.persons[person].name == name) {
            return refuse(BEYOND);
        }
        Person p = world.persons[person];
        if (p.dead || p.name == NOBODY || world.owed[p.name * WELLS + name] < v) {
            return refuse(STATE);
        }
        world.owed[p.name * WELLS + name] -= v;
        return world.owed[p.name * WELLS + name];
    }

    public int days(int n) {
        return passDays(n, 60, false);
    }

    public int loose(int n) {
        return passDays(n, 40, true);
    }

    public int same() {
        return world.pairsOfOneName();
    }

    // ---- what would be

    public int soonest(int person, int well, int barred) {
        return leastTill(person, well, barred, true);
    }

    public int drinks(int person, int well, int barred) {
        return leastTill(person, well, barred, false);
    }

    public int reach(int person, int barred, int what) {
        if (!isPerson(person) || !areWells(barred) || !within(what, 0, 1)) {
            return refuse(BEYOND);
        }
        Person p = world.persons[person];
        if (p.dead) {
            return refuse(STATE);
        }
        ways.think(world, p, barred);
        int reached = ways.reached();
        return what == 0 ? reached : reached & ways.mayDrink;
    }

    public int dry(int person, int what) {
        if (!isPerson(person) || !within(what, 0, 1)) {
            return refuse(BEYOND);
        }
        Person p = world.persons[person];
        if (p.dead) {
            return refuse(STATE);
        }
        int driest = 0;
        int fewest = WELLS;
        ways.think(world, p, 0);
        for (int well = 0; well < WELLS; well++) {
            ways.startAgain(p, 1 << well);
            int others = Integer.bitCount(ways.reached() & ~(1 << well));
            if (others < fewest) {
                fewest = others;
                driest = well;
            }
        }
        return what == 0 ? driest : fewest;
    }

    public int net() {
        int length = ways.leastNet(world);
        return length < 0 ? refuse(NONE) : length;
    }

    public int shortest(int a, int b) {
        if (!isWell(a) || !isWell(b)) {
            return refuse(BEYOND);
        }
        int length = ways.shortestWay(world, a, b);
        return length < 0 ? refuse(NONE) : length;
    }

    public int walked(int sheet) {
        if (!isSheet(sheet)) {
            return refuse(BEYOND);
        }
        int hours = Ways.walkedHours(world, sheets[sheet]);
        return hours < 0 ? refuse(NONE) : hours;
    }

    public int alive(int sheet, int person, int set) {
        if (!isSheet(sheet) || !isPerson(person) || !areWells(set)) {
            return refuse(BEYOND);
        }
        if (Ways.walkedHours(world, sheets[sheet]) < 0) {
            return refuse(NONE);
        }
        return Ways.comesAlive(world, sheets[sheet], world.persons[person], set) ? 1 : 0;
    }

    public int grown(int name, int n, int p) {
        if (!isWell(name) || !within(n, 0, 100) || !within(p, 0, 20)) {
            return refuse(BEYOND);
        }
        return world.debtBehind(name, n, p);
    }

    // ---- draws, voices, sheets, images, what is told

    public int seed(int v) {
        int was = world.z;
        world.z = v;
        return was;
    }

    public int voice(int person, int act, int x) {
        if (!isPerson(person) || !within(act, 0, Voices.ACTS - 1)) {
            return refuse(BEYOND);
        }
        return voices.speak(person, world.persons[person], act, x);
    }

    public int trace(int i) {
        return within(i, 0, voices.begun - 1) ? voices.bodies[i] : refuse(NONE);
    }

    public int sheet(int sheet, int bits, int n) {
        if (!isSheet(sheet) || (bits != 0 && bits != 8 && bits != 16 && bits != 32)) {
            return refuse(BEYOND);
        }
        if (bits != 0 && n < 0) {
            return refuse(STATE);
        }
        if (bits != 0 && n > MOST_NUMBERS) {
            return refuse(BEYOND);
        }
        sheets[sheet].begin(bits, bits == 0 ? 0 : n);
        return 1;
    }

    public int put(int sheet, int i, int v) {
        if (!isSheet(sheet)) {
            return refuse(BEYOND);
        }
        Sheet s = sheets[sheet];
        if (s.isMissing()) {
            return refuse(NONE);
        }
        if (!within(i, 0, s.size - 1)) {
            return refuse(BEYOND);
        }
        s.set(i, v);
        return 1;
    }

    public int move(int sheet, int i, int other, int j, int n) {
        if (!isSheet(sheet) || !isSheet(other)) {
            return refuse(BEYOND);
        }
        Sheet from = sheets[sheet];
        Sheet to = sheets[other];
        if (from.isMissing() || to.isMissing()) {
            return refuse(NONE);
        }
        if (from.bits != to.bits) {
            return refuse(KIND);
        }
        if (!from.holds(i, n) || !to.holds(j, n)) {
            return refuse(BEYOND);
        }
        System.arraycopy(from.numbers, i, to.numbers, j, n);
        return n;
    }

    public int waters(int sheet) {
        if (!isSheet(sheet)) {
            return refuse(BEYOND);
        }
        if (sheets[sheet].isMissing()) {
            return refuse(NONE);
        }
        return world.takeWaters(sheets[sheet]);
    }

    public int judge(int sheet) {
        if (!isSheet(sheet)) {
            return refuse(BEYOND);
        }
        if (sheets[sheet].isMissing()) {
            return refuse(NONE);
        }
        return world.firstMisnamed(sheets[sheet]);
    }

    public int image() {
        kept.copyFrom(world);
        images++;
        return images;
    }

    public int restore() {
        if (images == 0) {
            return refuse(NONE);
        }
        world.copyFrom(kept);
        return world.hour;
    }

    public int tell(int v) {
        if (world.waits >= MOST_WAITING) {
            return refuse(FULL);
        }
        world.waiting[world.waits] = v;
        world.waits++;
        return world.waits;
    }

    public int check() {
        int answer = 0;
        for (int i = 0; i < world.waits && answer == 0; i++) {
            if (world.waiting[i] != world.deadBehind(i + 1)) {
                answer = 1 + i;
            }
        }
        world.waits = 0;
        return answer;
    }

    public int count(int what) {
        switch (what) {
            case 0:
                return world.people;
            case 1:
                return world.hour;
            case 2:
                return world.day;
            case 3:
                return world.deadBehind(0);
            case 4:
                return world.waterInAll();
            case 5:
                return world.rain;
            case 6:
                return world.owedInAll();
            case 7:
                return world.fed;
            case 8:
                return world.waits;
            case 9:
                return voices.begun;
            case 10:
                return world.z;
            default:
                return refuse(BEYOND);
        }
    }

    public int told(int k) {
        return within(k, BEYOND, KIND) ? refused[k] : refuse(BEYOND);
    }

    private int passDays(int n, int most, boolean byDraws) {
        if (!within(n, 1, most)) {
            return refuse(BEYOND);
        }
        if (!world.hasDays(n)) {
            return refuse(STATE);
        }
        for (int i = 0; i < n; i++) {
            if (byDraws) {
                world.drawWater();
            }
            world.passDay();
        }
        return world.deadBehind(0);
    }

    private int leastTill(int person, int well, int barred, boolean byHours) {
        if (!isPerson(person) || !isWell(well) || !areWells(barred)) {
            return refuse(BEYOND);
        }
        Person p = world.persons[person];
        if (p.dead) {
            return refuse(STATE);
        }
        if (p.name == well) {
            return 0;
        }
        ways.think(world, p, barred);
        int least = byHours ? ways.soonestHours(well) : ways.fewestDrinks(well);
        return least < 0 ? refuse(NONE) : least;
    }

    private int refuse(int error) {
        refused[error]++;
        return LOW - error;
    }

    private boolean isPerson(int person) {
        return within(person, 0, world.people - 1);
    }

    private static boolean isWell(int well) {
        return within(well, 0, WELLS - 1);
    }

    private static boolean areTwoWells(int a, int b) {
        return isWell(a) && isWell(b) && a != b;
    }

    private static boolean areWells(int set) {
        return within(set, 0, ALL_WELLS);
    }

    private static boolean isKindWithNumber(int km) {
        return within(km, 0, KINDS * 10 - 1);
    }

    private static boolean isUse(int use) {
        return within(use, 0, USES - 1);
    }

    private static boolean isSheet(int sheet) {
        return within(sheet, 0, SHEETS - 1);
    }

    private static boolean within(int v, int least, int most) {
        return v >= least && v <= most;
    }

    /** Somebody; the kind is a number, since one may become of another kind. */
    static final class Person {
        int kind;
        int m;
        int at;
        int name = NOBODY;
        int thirst;
        boolean dead;

        void begin(int ofKind, int withNumber, int well) {
            kind = ofKind;
            m = withNumber;
            at = well;
            name = NOBODY;
            thirst = 0;
            dead = false;
        }

        void copyFrom(Person other) {
            kind = other.kind;
            m = other.m;
            at = other.at;
            name = other.name;
            thirst = other.thirst;
            dead = other.dead;
        }

        boolean isOf(int wanted) {
            int above = kind;
            for (int i = 0; i < KINDS && within(above, 0, KINDS - 1); i++) {
                if (above == wanted) {
                    return true;
                }
                above = KIND_ABOVE[above];
            }
            return false;
        }

        int limit() {
            switch (kind) {
                case FLASK:
                case JUDGE:
                    return 12 + m;
                case CHILD:
                    return 8;
                case FOUNDLING:
                    return 8 + m / 2;
                case CAMEL:
                case BEAST:
                    return 3 * 12;
                default:
                    return 12;
            }
        }

        int called(int hour) {
            switch (kind) {
                case JUDGE:
                    return name == NOBODY ? at : name;
                case CAMEL:
                case BEAST:
                    return hour % 2 == 0 ? at : name;
                case FOUNDLING:
                    return name == at ? NOBODY : at;
                default:
                    return at;
            }
        }

        void thirsts(int more) {
            thirst += more;
            if (thirst > limit()) {
                dead = true;
            }
        }
    }

    /** All that an image keeps. */
    static final class World {
        final int[] water = new int[WELLS];
        final int[] roads = new int[WELLS * WELLS];
        final int[] owed = new int[WELLS * WELLS];
        final Person[] persons = new Person[MOST_PEOPLE];
        final Law[] laws = {new Law(NEEDS), new Law(PARCHED)};
        final int[] tape = new int[MOST_TAPE];
        final int[] waiting = new int[MOST_WAITING];
        int people;
        int rain = 1;
        int hour;
        int day;
        int fed;
        int waits;
        int z = 1;

        World() {
            Arrays.fill(water, 9);
            for (int i = 0; i < MOST_PEOPLE; i++) {
                persons[i] = new Person();
            }
        }

        void copyFrom(World other) {
            System.arraycopy(other.water, 0, water, 0, WELLS);
            System.arraycopy(other.roads, 0, roads, 0, WELLS * WELLS);
            System.arraycopy(other.owed, 0, owed, 0, WELLS * WELLS);
            System.arraycopy(other.tape, 0, tape, 0, MOST_TAPE);
            System.arraycopy(other.waiting, 0, waiting, 0, MOST_WAITING);
            for (int i = 0; i < MOST_PEOPLE; i++) {
                persons[i].copyFrom(other.persons[i]);
            }
            for (int use = 0; use < USES; use++) {
                laws[use].take(other.laws[use].code, other.laws[use].length);
            }
            people = other.people;
            rain = other.rain;
            hour = other.hour;
            day = other.day;
            fed = other.fed;
            waits = other.waits;
            z = other.z;
        }

        int needs(Person p, int thirst) {
            switch (p.kind) {
                case CAMEL:
                    return laws[NEEDS].gives(p.m, thirst, day);
                case BEAST:
                    return laws[NEEDS].gives(p.m, thirst, day) + p.m;
                default:
                    return 1;
            }
        }

        int parched(Person p, int length) {
            return laws[PARCHED].gives(length, p.m, day);
        }

        int roadsFrom(int well) {
            int found = 0;
            for (int to = 0; to < WELLS; to++) {
                if (roads[well * WELLS + to] > 0) {
                    found++;
                }
            }
            return found;
        }

        int namedBy(int well) {
            int set = 0;
            for (int i = 0; i < people; i++) {
                if (!persons[i].dead && persons[i].name == well) {
                    set |= 1 << i;
                }
            }
            return set;
        }

        int standingAt(int well) {
            int set = 0;
            for (int i = 0; i < people; i++) {
                if (!persons[i].dead && persons[i].at == well) {
                    set |= 1 << i;
                }
            }
            return set;
        }

        int pairsOfOneName() {
            int pairs = 0;
            for (int well = 0; well < WELLS; well++) {
                int named = Integer.bitCount(namedBy(well));
                pairs += named * (named - 1) / 2;
            }
            return pairs;
        }

        int debtOf(int name) {
            return debtBehind(name, 0, 0);
        }

        int debtBehind(int name, int days, int hundredths) {
            int sum = 0;
            for (int to = 0; to < WELLS && isWell(name); to++) {
                int debt = owed[name * WELLS + to];
                for (int i = 0; i < days; i++) {
                    debt = Math.min(MOST_OWED, debt + debt * hundredths / 100);
                }
                sum += debt;
            }
            return sum;
        }

        int owedInAll() {
            int sum = 0;
            for (int name = 0; name < WELLS; name++) {
                sum += debtOf(name);
            }
            return sum;
        }

        int waterInAll() {
            int sum = 0;
            for (int well = 0; well < WELLS; well++) {
                sum += water[well];
            }
            return sum;
        }

        boolean hasDays(int n) {
            return day + n <= MOST_DAY && hour + n <= MOST_HOUR;
        }

        void passDay() {
            for (int well = 0; well < WELLS; well++) {
                water[well] = Math.min(MOST_WATER, water[well] + rain);
            }
            for (int i = 0; i < people; i++) {
                if (!persons[i].dead) {
                    persons[i].thirsts(1);
                }
            }
            day++;
            hour++;
        }

        void drawWater() {
            int well = draw() % WELLS;
            int v = draw() % 20;
            if (isWell(well)) {
                water[well] = v;
            }
        }

        private int draw() {
            z = z * 1103515245 + 12345;
            return z >>> 8;
        }

        int deadBehind(int days) {
            int found = 0;
            for (int i = 0; i < people; i++) {
                Person p = persons[i];
                // Thirst may stand above the limit without death, until a day passes.
                if (p.dead || (days > 0 && p.thirst + days > p.limit())) {
                    found++;
                }
            }
            return found;
        }

        int takeWaters(Sheet s) {
            for (int i = 0; i < s.size; i++) {
                if (!isWell(i) || !within(s.numbers[i], 0, MOST_WATER)) {
                    return i;
                }
                water[i] = s.numbers[i];
            }
            return s.size;
        }

        int firstMisnamed(Sheet s) {
            int both = Math.min(s.size, people);
            for (int i = 0; i < both; i++) {
                if (s.numbers[i] != persons[i].name) {
                    return i;
                }
            }
            return s.size == people ? -1 : both;
        }
    }

    /** What a use gives; its text, if there is one, as steps in the order in which they are worked out. */
    static final class Law {
        static final int FIRST_NAME = 10000;
        private static final int MOST_GIVEN = 99;

        final int[] code = new int[MOST_TAPE];
        int length;
        private final int use;
        private final int[] stack = new int[MOST_TAPE];

        Law(int use) {
            this.use = use;
        }

        void take(int[] steps, int n) {
            length = Math.min(n, MOST_TAPE);
            System.arraycopy(steps, 0, code, 0, length);
        }

        int gives(int a, int b, int c) {
            int worth = length == 0 ? withoutText(a, b) : worked(a, b, c);
            return Math.max(0, Math.min(MOST_GIVEN, worth));
        }

        private int withoutText(int a, int b) {
            return use == NEEDS ? 1 + b / 4 : a;
        }

        private int worked(int a, int b, int c) {
            int top = 0;
            for (int i = 0; i < length; i++) {
                int step = code[i];
                if (step >= 0 && top < MOST_TAPE) {
                    stack[top] = plain(step, a, b, c);
                    top++;
                } else if (step == -'!' && top > 0) {
                    stack[top - 1] = stack[top - 1] == 0 ? 1 : 0;
                } else if (top > 1) {
                    top--;
                    stack[top - 1] = joined(-step, stack[top - 1], stack[top]);
                }
            }
            return stack[0];
        }

        private static int plain(int step, int a, int b, int c) {
            switch (step - FIRST_NAME) {
                case 0:
                    return a;
                case 1:
                    return b;
                case 2:
                    return c;
                default:
                    return step;
            }
        }

        private static int joined(int sign, int a, int b) {
            switch (sign) {
                case '|':
                    return a != 0 || b != 0 ? 1 : 0;
                case '&':
                    return a != 0 && b != 0 ? 1 : 0;
                case '<':
                    return a < b ? 1 : 0;
                case '=':
                    return a == b ? 1 : 0;
                case '>':
                    return a > b ? 1 : 0;
                case '+':
                    return a + b;
                case '-':
                    return a - b;
                case '*':
                    return a * b;
                case '/':
                    return b == 0 ? 0 : a / b;
                default:
                    return b == 0 ? 0 : a % b;
            }
        }
    }

    /** Reads a text from the tape, and turns it into steps. */
    static final class Reader {
        private static final int COMPARING = 2;
        private static final int SINGLE = 5;
        private static final int MOST_OPEN = 5;

        final int[] code = new int[MOST_TAPE];
        int coded;
        private final int[] bytes = new int[MOST_TAPE];
        private int length;
        private int use;
        private int place;
        private int open;
        private boolean faulty;

        /** The place of the fault, or -1. */
        int read(int[] tape, int n, int forUse) {
            length = Math.min(n, MOST_TAPE);
            System.arraycopy(tape, 0, bytes, 0, length);
            use = forUse;
            place = 0;
            open = 0;
            coded = 0;
            faulty = false;
            readJoined(0);
            return faulty || place < length ? place : -1;
        }

        // Behind a fault the place stays where it is, since nothing reads on.
        private void readJoined(int rank) {
            if (rank >= SINGLE) {
                readSingle();
                return;
            }
            readJoined(rank + 1);
            int most = rank == COMPARING ? 1 : MOST_TAPE;
            for (int i = 0; i < most && !faulty && rankOf(next()) == rank; i++) {
                int sign = next();
                place++;
                readJoined(rank + 1);
                emit(-sign);
            }
        }

        private void readSingle() {
            int sign = next();
            int name = nameOf(sign);
            if (isDigit(sign)) {
                readNumber();
            } else if (name >= 0) {
                place++;
                emit(Law.FIRST_NAME + name);
            } else if ((sign == '!' || sign == '(') && open < MOST_OPEN) {
                readOpened(sign);
            } else {
                faulty = true;
            }
        }

        private void readOpened(int sign) {
            place++;
            open++;
            if (sign == '!') {
                readSingle();
                emit(-sign);
            } else {
                readJoined(0);
                if (!faulty && next() == ')') {
                    place++;
                } else {
                    faulty = true;
                }
            }
            open--;
        }

        private void readNumber() {
            int number = 0;
            for (int i = 0; i < 4 && isDigit(next()); i++) {
                number = number * 10 + next() - '0';
                place++;
            }
            emit(number);
        }

        private int next() {
            return place >= 0 && place < length ? bytes[place] : -1;
        }

        private void emit(int step) {
            if (coded < MOST_TAPE) {
                code[coded] = step;
                coded++;
            }
        }

        private static boolean isDigit(int sign) {
            return sign >= '0' && sign <= '9';
        }

        private int nameOf(int sign) {
            switch (sign) {
                case 'm':
                    return use == NEEDS ? 0 : 1;
                case 't':
                    return use == NEEDS ? 1 : -1;
                case 'l':
                    return use == PARCHED ? 0 : -1;
                case 'd':
                    return 2;
                default:
                    return -1;
            }
        }

        private static int rankOf(int sign) {
            switch (sign) {
                case '|':
                    return 0;
                case '&':
                    return 1;
                case '<':
                case '=':
                case '>':
                    return COMPARING;
                case '+':
                case '-':
                    return 3;
                case '*':
                case '/':
                case '%':
                    return 4;
                default:
                    return -1;
            }
        }
    }

    /** Ways on the roads, as they are only thought. */
    static final class Ways {
        private static final int NEVER = 1000000;
        private static final int MOST_ROUNDS = 1000;
        // Between two drinks no well need be passed twice: no soonest way is longer.
        private static final int MOST_HOURS = 1600;
        private static final int RING = MOST_LENGTH + 1;

        int mayDrink;
        private int limit;
        private int enoughWater;
        private final int[] roads = new int[WELLS * WELLS];
        private final int[] cost = new int[MOST_LENGTH + 1];
        private final int[] least = new int[WELLS];
        private final int[] hours = new int[RING * WELLS];

        /** Begins a thought about somebody alive; what is asked next is of it. */
        void think(World world, Person p, int barred) {
            lookAtRoads(world);
            limit = p.limit();
            for (int length = 1; length <= MOST_LENGTH; length++) {
                cost[length] = world.parched(p, length);
            }
            int need = world.needs(p, 0);
            enoughWater = 0;
            for (int well = 0; well < WELLS; well++) {
                if (world.water[well] >= need) {
                    enoughWater |= 1 << well;
                }
            }
            startAgain(p, barred);
        }

        /** The same thought, from where one stands, with other wells barred. */
        void startAgain(Person p, int barred) {
            mayDrink = enoughWater & ~barred;
            Arrays.fill(least, NEVER);
            least[p.at] = p.thirst;
        }

        int reached() {
            drinkWherePossible();
            spread(true);
            int set = 0;
            for (int well = 0; well < WELLS; well++) {
                if (least[well] < NEVER) {
                    set |= 1 << well;
                }
            }
            return set;
        }

        int fewestDrinks(int well) {
            if (!isIn(mayDrink, well)) {
                return -1;
            }
            boolean more = true;
            for (int n = 1; n <= WELLS && more; n++) {
                spread(false);
                if (least[well] < NEVER) {
                    return n;
                }
                more = drinkWherePossible();
            }
            return -1;
        }

        /** Goes hour by hour: of all ways to a well in just so many hours the least thirst is kept. */
        int soonestHours(int well) {
            drinkWherePossible();
            Arrays.fill(hours, NEVER);
            System.arraycopy(least, 0, hours, 0, WELLS);
            if (!isIn(reached() & mayDrink, well)) {
                return -1;
            }
            for (int hour = 0; hour <= MOST_HOURS; hour++) {
                if (hour > 0) {
                    arriveAt(hour);
                }
                if (hours[hour % RING * WELLS + well] < NEVER) {
                    return hour;
                }
            }
            return -1;
        }

        int shortestWay(World world, int a, int b) {
            lookAtRoads(world);
            limit = NEVER - 1;
            for (int length = 0; length <= MOST_LENGTH; length++) {
                cost[length] = length;
            }
            Arrays.fill(least, NEVER);
            least[a] = 0;
            spread(false);
            return least[b] < NEVER ? least[b] : -1;
        }

        int leastNet(World world) {
            lookAtRoads(world);
            Arrays.fill(least, NEVER);
            least[0] = 0;
            int joined = 0;
            int sum = 0;
            for (int i = 0; i < WELLS; i++) {
                int well = nearestOutside(joined);
                if (well < 0) {
                    return -1;
                }
                joined |= 1 << well;
                sum += least[well];
                for (int to = 0; to < WELLS; to++) {
                    int length = roads[well * WELLS + to];
                    if (length > 0) {
                        least[to] = Math.min(least[to], length);
                    }
                }
            }
            return sum;
        }

        /** -1, if the sheet tells no row of wells that can be walked. */
        static int walkedHours(World world, Sheet s) {
            int sum = 0;
            for (int i = 0; i < s.size; i++) {
                int well = s.numbers[i];
                int ahead = s.numbers[Math.max(0, i - 1)];
                if (!isWell(well) || !isWell(ahead)) {
                    return -1;
                }
                int length = world.roads[ahead * WELLS + well];
                if (well != ahead && length == 0) {
                    return -1;
                }
                sum += length;
            }
            return s.size == 0 ? -1 : sum;
        }

        static boolean comesAlive(World world, Sheet s, Person p, int set) {
            int thirst = 0;
            int most = p.limit();
            for (int i = 1; i < s.size; i++) {
                int well = s.numbers[i];
                int ahead = s.numbers[i - 1];
                // Who stays goes by no road: no text is asked for it.
                if (isWell(well) && isWell(ahead) && well != ahead) {
                    thirst += world.parched(p, world.roads[ahead * WELLS + well]);
                }
                if (thirst > most) {
                    return false;
                }
                if (isIn(set, well)) {
                    thirst = 0;
                }
            }
            return true;
        }

        // A copy: no constructor may hand out a row of the object that it makes, so the world's own isn't kept here.
        private void lookAtRoads(World world) {
            System.arraycopy(world.roads, 0, roads, 0, WELLS * WELLS);
        }

        private boolean drinkWherePossible() {
            boolean drunk = false;
            for (int well = 0; well < WELLS; well++) {
                if (isIn(mayDrink, well) && least[well] > 0 && least[well] < NEVER) {
                    least[well] = 0;
                    drunk = true;
                }
            }
            return drunk;
        }

        private void spread(boolean drinking) {
            boolean more = true;
            for (int i = 0; i < MOST_ROUNDS && more; i++) {
                more = false;
                for (int from = 0; from < WELLS; from++) {
                    if (least[from] < NEVER && spreadFrom(from, drinking)) {
                        more = true;
                    }
                }
            }
        }

        private boolean spreadFrom(int from, boolean drinking) {
            boolean more = false;
            for (int to = 0; to < WELLS; to++) {
                int length = roads[from * WELLS + to];
                int thirst = least[from] + cost[length];
                if (length > 0 && thirst <= limit) {
                    int then = drinking && isIn(mayDrink, to) ? 0 : thirst;
                    if (then < least[to]) {
                        least[to] = then;
                        more = true;
                    }
                }
            }
            return more;
        }

        private void arriveAt(int hour) {
            for (int to = 0; to < WELLS; to++) {
                int best = NEVER;
                for (int from = 0; from < WELLS; from++) {
                    int length = roads[from * WELLS + to];
                    if (length > 0 && length <= hour) {
                        int thirst = hours[(hour - length) % RING * WELLS + from] + cost[length];
                        best = thirst <= limit ? Math.min(best, thirst) : best;
                    }
                }
                if (best < NEVER && isIn(mayDrink, to)) {
                    best = 0;
                }
                hours[hour % RING * WELLS + to] = best;
            }
        }

        private int nearestOutside(int joined) {
            int nearest = -1;
            for (int well = 0; well < WELLS; well++) {
                if (!isIn(joined, well) && least[well] < NEVER
                        && (nearest < 0 || least[well] < least[nearest])) {
                    nearest = well;
                }
            }
            return nearest;
        }

        private static boolean isIn(int set, int well) {
            return (set >> well & 1) == 1;
        }
    }

    /** Bodies of the kinds, and the trace that they leave. */
    static final class Voices {
        static final int ACTS = 4;
        private static final int DRINKS = 0;
        private static final int CALLS = 1;
        private static final int OWES = 2;
        private static final int TELLS = 3;
        private static final int MOST_TRACE = 40;
        private static final int MOST_DEPTH = 30;
        // A row for each kind, a column for each act; 0: the kind has no body of its own.
        private static final int[] BODY = {
            10, 11, 12, 13,
            20, 0, 0, 0,
            0, 30, 0, 0,
            0, 0, 40, 0,
            0, 0, 0, 50,
            0, 60, 0, 0,
            0, 0, 70, 71,
        };

        final int[] bodies = new int[MOST_TRACE];
        int begun;
        private int n;
        private int m;
        private int kind;

        int speak(int number, Person p, int act, int x) {
            n = number;
            m = p.m;
            kind = p.kind;
            begun = 0;
            return say(kind, act, x, 0);
        }

        private int say(int from, int act, int x, int depth) {
            int at = from;
            for (int i = 0; i < KINDS && within(at, 0, KINDS - 1); i++) {
                int body = BODY[at * ACTS + act];
                if (body != 0) {
                    return depth < MOST_DEPTH ? run(body, KIND_ABOVE[at], x, depth + 1) : 0;
                }
                at = KIND_ABOVE[at];
            }
            return 0;
        }

        private int run(int body, int above, int x, int depth) {
            note(body);
            switch (body) {
                case 10:
                    return x + n;
                case 11:
                    return say(kind, DRINKS, x, depth) * 2;
                case 12:
                    return x - m;
                case 13:
                    return say(kind, CALLS, x, depth) ^ say(kind, OWES, x, depth);
                case 20:
                    return say(above, DRINKS, x, depth) * 3;
                case 30:
                    return say(above, CALLS, x, depth) - say(kind, OWES, 1, depth);
                case 40:
                    return -say(above, OWES, x, depth);
                case 50:
                    return say(above, TELLS, x, depth) - say(kind, DRINKS, 2, depth);
                case 60:
                    return say(above, CALLS, x + 1, depth);
                case 70:
                    return say(above, OWES, x, depth) ^ n;
                case 71:
                    return say(kind, CALLS, x, depth) - say(above, TELLS, x, depth);
                default:
                    return 0;
            }
        }

        private void note(int body) {
            if (begun < MOST_TRACE) {
                bodies[begun] = body;
                begun++;
            }
        }
    }

    /** A row of numbers of 8, 16 or 32 bits; of 0 bits it is missing. */
    static final class Sheet {
        final int[] numbers = new int[MOST_NUMBERS];
        int bits;
        int size;

        void begin(int ofBits, int n) {
            bits = ofBits;
            size = n;
            Arrays.fill(numbers, 0);
        }

        boolean isMissing() {
            return bits == 0;
        }

        boolean holds(int i, int n) {
            return i >= 0 && n >= 0 && i <= size && n <= size - i;
        }

        void set(int i, int v) {
            numbers[i] = bits == 8 ? (byte) v : bits == 16 ? (short) v : v;
        }
    }
}
