import java.util.Arrays;

/** People who may speak only in hours that their numbers go into; ../shared/DOC.md has the promises. */
public final class NumberComes {
    public static final int NONE = -1;
    public static final int FAR = -2;

    private static final int NO_WORTH = -1000000;
    private static final int NOT_KNOWN = -2;
    private static final int MOST_PEOPLE = 12;
    private static final int JUST_ONE = 12;
    private static final int GREATEST = 9999;
    private static final int MOST_DAY = 999;
    private static final int MOST_CLOCK = 60;
    private static final int MOST_TEXTS = 4;
    private static final int MOST_BYTES = 300;
    private static final int MOST_TALKS = 30;
    private static final int MOST_GIVEN = 6;
    private static final int MOST_NEEDS = 12;
    private static final int MOST_HEARD = 20;
    private static final int MOST_SCANNED = 100000;
    private static final int BITS_AT_ONCE = 60;
    private static final int MOST_FITTING = 60;
    private static final long LAST_HOUR = 1000000000000000L;
    private static final long LAST_START = 100000000000000L;

    private final State now = new State();
    private final State kept = new State();
    private final Text[] texts = new Text[MOST_TEXTS];
    private final Reader reader = new Reader();
    private final Voices voices;
    private final Meetings meetings;
    private final Turns turns;
    private final Gifts gifts;
    private final Searches searches;
    private final Couples couples;
    private final Cover covers;

    public NumberComes() {
        for (int i = 0; i < MOST_TEXTS; i++) {
            texts[i] = new Text();
        }
        Machine machine = new Machine();
        voices = new Voices(now, texts, machine);
        meetings = new Meetings(now, voices);
        turns = new Turns(voices);
        gifts = new Gifts(now, voices, meetings, machine);
        searches = new Searches(now);
        couples = new Couples(meetings);
        covers = new Cover(now, voices);
    }

    public int person(int number, int first) {
        int added = now.addPerson(number, first);
        if (added != NONE) {
            voices.openFor(added);
        }
        return added;
    }

    public boolean change(int who, int number, int first) {
        if (!now.isTold(who) || !isNumber(number) || !isFirst(first)) {
            return false;
        }
        now.number[who] = number;
        now.first[who] = first;
        voices.openFor(who);
        return true;
    }

    public boolean day(int hours) {
        if (!isDay(hours)) {
            return false;
        }
        now.day = hours;
        return true;
    }

    public boolean clock(int hours) {
        if (hours < 1 || hours > MOST_CLOCK) {
            return false;
        }
        now.clock = hours;
        voices.openForAll();
        return true;
    }

    public boolean near(int one, int other, boolean is) {
        return now.setNear(one, other, is);
    }

    public int feed(int a, int b, int c, int d, int e) {
        if (!reader.hasRoom(20)) {
            return NONE;
        }
        reader.addFour(a);
        reader.addFour(b);
        reader.addFour(c);
        reader.addFour(d);
        reader.addFour(e);
        return reader.length;
    }

    public int end(int n) {
        if (n < 0 || n > reader.length) {
            return NONE;
        }
        reader.length = n;
        return n;
    }

    public int text() {
        int number = now.texts;
        if (number < 0 || number >= MOST_TEXTS) {
            return NONE;
        }
        boolean good = reader.readAll(texts[number]);
        reader.length = 0;
        if (!good) {
            return NONE;
        }
        now.texts++;
        return number;
    }

    public int fault(int what) {
        if (what == 0) {
            return reader.fault;
        }
        return what == 1 ? reader.place : NONE;
    }

    public boolean by(int text) {
        if (text < NONE || text >= now.texts) {
            return false;
        }
        now.ruling = text;
        voices.openForAll();
        return true;
    }

    public boolean speaks(int who, long hour) {
        return now.isTold(who) && isHour(hour) && voices.isHeardAt(who, hour);
    }

    public long next(int set, long hour) {
        if (!now.isSet(set) || !isHour(hour)) {
            return NONE;
        }
        return meetings.firstFrom(set, hour);
    }

    public int barred(int set, int what) {
        if (!now.isSet(set) || now.day > 0 || what < 0 || what > 1) {
            return NONE;
        }
        int pair = meetings.pairApart(set);
        if (pair == NONE) {
            return NONE;
        }
        return what == 0 ? pair / MOST_PEOPLE : pair % MOST_PEOPLE;
    }

    public long together(int set, long hour, long n) {
        if (!now.isSet(set) || !areHours(hour, n)) {
            return NONE;
        }
        return meetings.countOf(set, hour, hour + n - 1);
    }

    public int alone(int who, long hour, int n) {
        boolean known = who == NONE || who == JUST_ONE || now.isTold(who);
        if (!known || n > MOST_SCANNED || !areHours(hour, n)) {
            return NONE;
        }
        int sought = who == NONE ? 0 : 1 << who;
        int found = 0;
        voices.begin(hour, n);
        for (int i = 0; i < n; i++) {
            int mask = voices.nextMask();
            boolean fits = who == JUST_ONE ? Integer.bitCount(mask) == 1 : mask == sought;
            if (fits) {
                found++;
            }
        }
        return found;
    }

    public long secret(int one, int other, long hour, int n) {
        int hours = n == 0 ? MOST_SCANNED : n;
        if (!now.isPair(one, other) || hours > MOST_SCANNED || !areHours(hour, hours)) {
            return NONE;
        }
        int pair = 1 << one | 1 << other;
        int listeners = now.listenersOf(pair);
        long found = 0;
        voices.begin(hour, hours);
        for (int i = 0; i < hours; i++) {
            int mask = voices.nextMask();
            if ((mask & pair) == pair && (mask & listeners) == 0) {
                if (n == 0) {
                    return hour + i;
                }
                found++;
            }
        }
        return n == 0 ? NONE : found;
    }

    public long pass(int from, long hour, int to, int what) {
        if (!now.isTold(from) || !now.isTold(to) || !isStart(hour) || what < 0 || what > 1) {
            return NONE;
        }
        if (from == to) {
            return what == 0 ? hour : NONE;
        }
        int knowing = 1 << from;
        voices.begin(hour, MOST_SCANNED);
        for (int i = 0; i < MOST_SCANNED; i++) {
            int mask = voices.nextMask();
            int tellers = mask & knowing;
            if (tellers != 0) {
                if ((mask >>> to & 1) != 0) {
                    return what == 0 ? hour + i : lowestOf(tellers);
                }
                knowing |= mask;
            }
        }
        return NONE;
    }

    public int talk(long hour, int one, int other) {
        int talk = now.talks;
        if (!isHour(hour) || !now.isPair(one, other) || talk < 0 || talk >= MOST_TALKS) {
            return NONE;
        }
        now.talkHour[talk] = hour;
        now.talkPair[talk] = 1 << one | 1 << other;
        now.talks++;
        return talk;
    }

    public int judge() {
        for (int i = 0; i < now.talks; i++) {
            if (voices.heardOf(now.talkPair[i], now.talkHour[i]) != now.talkPair[i]) {
                return i;
            }
        }
        return NONE;
    }

    public int overheard(int talk) {
        if (talk < 0 || talk >= now.talks) {
            return NONE;
        }
        return voices.heardOf(now.listenersOf(now.talkPair[talk]), now.talkHour[talk]);
    }

    public long turn(int set, long hour, int who) {
        if (!now.isSet(set) || !isStart(hour) || !isOfOrNone(who, set)) {
            return NONE;
        }
        int hours = turns.fewest(set, hour);
        if (hours == NONE || who == NONE) {
            return hours;
        }
        turns.allot(set, hours);
        return hour + turns.allotted[who];
    }

    public int given(int number) {
        if (!isNumber(number) || now.givens < 0 || now.givens >= MOST_GIVEN) {
            return NONE;
        }
        for (int i = 0; i < now.givens; i++) {
            if (now.given[i] == number) {
                return NONE;
            }
        }
        now.given[now.givens] = number;
        now.givens++;
        return now.givens;
    }

    public int need(int one, int other, int asked, int hours) {
        int need = now.needs;
        if (!now.isPair(one, other) || need < 0 || need >= MOST_NEEDS) {
            return NONE;
        }
        if (asked < 1 || asked > 999 || hours < 1 || hours > MOST_SCANNED) {
            return NONE;
        }
        now.needPair[need] = 1 << one | 1 << other;
        now.needAsked[need] = asked;
        now.needHours[need] = hours;
        now.needs++;
        return need;
    }

    public int worth(int need) {
        if (need < NONE || need >= now.needs) {
            return NO_WORTH;
        }
        return need == NONE ? gifts.total() : gifts.worthOf(need);
    }

    public int give(int set, int who) {
        if (!now.isSet(set) || Integer.bitCount(set) > 2 || !isOfOrNone(who, set) || now.givens == 0) {
            return NO_WORTH;
        }
        gifts.findBest(set);
        if (who == NONE) {
            return gifts.bestWorth;
        }
        return who == lowestOf(set) ? gifts.bestLow : gifts.bestHigh;
    }

    public int mend(int what) {
        if (what < 0 || what > 2 || !gifts.findChange()) {
            return NO_WORTH;
        }
        if (what == 0) {
            return gifts.bestWho;
        }
        return what == 1 ? gifts.bestLow : gifts.bestWorth;
    }

    public int cover() {
        return now.people == 0 ? NONE : covers.fewestOf();
    }

    public int apart(int set, int who) {
        if (!now.isSet(set) || who < 0 || !isOfOrNone(who, set) || !searches.canPart(set)) {
            return NONE;
        }
        return searches.part(set) ? searches.firstOf(who) : NONE;
    }

    public int heard(int hour, boolean is) {
        if (hour < 0 || hour > 999999 || now.heards < 0 || now.heards >= MOST_HEARD) {
            return NONE;
        }
        now.addHeard(hour, is);
        return now.heards;
    }

    public int fits(int most, int i) {
        if (most < 1 || most > MOST_FITTING || i < NONE) {
            return NONE;
        }
        int found = 0;
        for (int number = 1; number <= most; number++) {
            for (int first = 0; first < number; first++) {
                if (searches.isFitting(number, first)) {
                    if (found == i) {
                        return 100 * number + first;
                    }
                    found++;
                }
            }
        }
        return i == NONE ? found : NONE;
    }

    public int who() {
        int left = (1 << now.people) - 1;
        for (int i = 0; i < now.heards; i++) {
            int speaking = voices.heardOf(left, now.heardHour[i]);
            left = now.wasHeard(i) ? speaking : left & ~speaking;
        }
        return left;
    }

    public long bits(int who, long hour) {
        if (!now.isTold(who) || !isStart(hour)) {
            return NONE;
        }
        long found = 0;
        voices.begin(hour, BITS_AT_ONCE);
        for (int i = 0; i < BITS_AT_ONCE; i++) {
            found |= (long) (voices.nextMask() >>> who & 1) << i;
        }
        return found;
    }

    public int other(int who, int day, int n, int what) {
        boolean asked = what == 0 || what == 1;
        if (!now.isTold(who) || !isDay(day) || n < 1 || n > MOST_SCANNED || !asked) {
            return NONE;
        }
        return what == 0 ? voices.countAlone(who, day, now.day, n) : voices.countAlone(who, now.day, day, n);
    }

    public long hush(long hour, int n, int what) {
        if (n > MOST_SCANNED || !areHours(hour, n) || what < 0 || what > 3) {
            return NONE;
        }
        return what < 2 ? silence(hour, n, what) : crowd(hour, n, what);
    }

    public int child(int one, int other, int keptFrom, int most) {
        if (!now.isPair(one, other) || most < 1 || most > 999) {
            return NONE;
        }
        int both = 1 << one | 1 << other;
        if (keptFrom != 0 && !now.isSet(keptFrom) || (keptFrom & both) != 0) {
            return NONE;
        }
        return searches.leastChild(both, keptFrom, most);
    }

    public int pairs(int set, int n, int who) {
        int size = Integer.bitCount(set);
        if (!now.isSet(set) || size > 8 || size % 2 != 0 || n < 1 || n > MOST_SCANNED || !isOfOrNone(who, set)) {
            return NONE;
        }
        couples.pairUp(set, n);
        return who == NONE ? couples.best : couples.partner[who];
    }

    public int roll(int text) {
        if (text < 0 || text >= now.texts || text >= MOST_TEXTS) {
            return NOT_KNOWN;
        }
        Text rolled = texts[text];
        int undone = NONE;
        now.forgetPeople();
        for (int i = 0; i < rolled.clauses && undone == NONE; i++) {
            if (!now.isDone(rolled.kind[i], rolled.left[i], rolled.right[i])) {
                undone = i;
            }
        }
        voices.openForAll();
        return undone;
    }

    public int image() {
        kept.takeAll(now);
        return now.people;
    }

    public int back() {
        now.takeAll(kept);
        voices.openForAll();
        return now.people;
    }

    public int about(int what) {
        int who = what < 0 ? NONE : what % 100;
        if (what >= 100 && what < 400 && now.isTold(who)) {
            return what < 200 ? now.number[who] : what < 300 ? now.first[who] : now.near[who];
        }
        return what == 9 ? reader.length : now.countAbout(what);
    }

    private long silence(long hour, int n, int what) {
        int longest = 0;
        long begins = NONE;
        int lasting = 0;
        voices.begin(hour, n);
        for (int i = 0; i < n; i++) {
            lasting = voices.nextMask() == 0 ? lasting + 1 : 0;
            if (lasting > longest) {
                longest = lasting;
                begins = hour + i - lasting + 1;
            }
        }
        return what == 0 ? longest : begins;
    }

    private long crowd(long hour, int n, int what) {
        int most = -1;
        long when = NONE;
        voices.begin(hour, n);
        for (int i = 0; i < n; i++) {
            int speaking = Integer.bitCount(voices.nextMask());
            if (speaking > most) {
                most = speaking;
                when = hour + i;
            }
        }
        return what == 2 ? when : most;
    }

    private static boolean isNumber(int number) {
        return number >= 1 && number <= GREATEST;
    }

    private static boolean isFirst(int first) {
        return first >= 0 && first <= GREATEST;
    }

    private static boolean isDay(int hours) {
        return hours == 0 || hours >= 2 && hours <= MOST_DAY;
    }

    private static boolean isHour(long hour) {
        return hour >= 0 && hour <= LAST_HOUR;
    }

    private static boolean isStart(long hour) {
        return hour >= 0 && hour <= LAST_START;
    }

    private static boolean areHours(long hour, long n) {
        return n >= 1 && n <= LAST_HOUR && hour >= 0 && hour <= LAST_HOUR - (n - 1);
    }

    private static boolean isOf(int who, int set) {
        return who >= 0 && who < MOST_PEOPLE && (set >>> who & 1) != 0;
    }

    private static boolean isOfOrNone(int who, int set) {
        return who == NONE || isOf(who, set);
    }

    /** The lowest of a set that has at least one. */
    private static int lowestOf(int set) {
        return Integer.bitCount((set & -set) - 1);
    }

    private static long gcd(long a, long b) {
        long high = a;
        long low = b;
        for (int i = 0; i < 200 && low != 0; i++) {
            long left = high % low;
            high = low;
            low = left;
        }
        return high;
    }

    /** The least common multiple of two that are above 0. */
    private static long common(long a, long b) {
        return a / gcd(a, b) * b;
    }

    /** All that an image keeps. A pair is held as bits, since nothing asks which of both was told first. */
    private static final class State {
        int people;
        final int[] number = new int[MOST_PEOPLE];
        final int[] first = new int[MOST_PEOPLE];
        final int[] near = new int[MOST_PEOPLE];
        int day;
        int clock = 24;
        // Texts are never changed, and only back() makes them fewer: their count is all that an image needs.
        int texts;
        int ruling = NONE;
        int talks;
        final long[] talkHour = new long[MOST_TALKS];
        final int[] talkPair = new int[MOST_TALKS];
        int givens;
        final int[] given = new int[MOST_GIVEN];
        int needs;
        final int[] needPair = new int[MOST_NEEDS];
        final int[] needAsked = new int[MOST_NEEDS];
        final int[] needHours = new int[MOST_NEEDS];
        int heards;
        final int[] heardHour = new int[MOST_HEARD];
        // Bits: whether somebody spoke in each.
        int heardIs;

        void takeAll(State from) {
            people = from.people;
            System.arraycopy(from.number, 0, number, 0, MOST_PEOPLE);
            System.arraycopy(from.first, 0, first, 0, MOST_PEOPLE);
            System.arraycopy(from.near, 0, near, 0, MOST_PEOPLE);
            day = from.day;
            clock = from.clock;
            texts = from.texts;
            ruling = from.ruling;
            talks = from.talks;
            System.arraycopy(from.talkHour, 0, talkHour, 0, MOST_TALKS);
            System.arraycopy(from.talkPair, 0, talkPair, 0, MOST_TALKS);
            givens = from.givens;
            System.arraycopy(from.given, 0, given, 0, MOST_GIVEN);
            needs = from.needs;
            System.arraycopy(from.needPair, 0, needPair, 0, MOST_NEEDS);
            System.arraycopy(from.needAsked, 0, needAsked, 0, MOST_NEEDS);
            System.arraycopy(from.needHours, 0, needHours, 0, MOST_NEEDS);
            heards = from.heards;
            System.arraycopy(from.heardHour, 0, heardHour, 0, MOST_HEARD);
            heardIs = from.heardIs;
        }

        void forgetPeople() {
            people = 0;
            talks = 0;
            needs = 0;
        }

        boolean isTold(int one) {
            return one >= 0 && one < people && one < MOST_PEOPLE;
        }

        boolean isPair(int one, int two) {
            return one != two && isTold(one) && isTold(two);
        }

        boolean isSet(int set) {
            return set > 0 && set < 1 << people;
        }

        int addPerson(int itsNumber, int itsFirst) {
            int added = people;
            if (!isNumber(itsNumber) || !isFirst(itsFirst) || added < 0 || added >= MOST_PEOPLE) {
                return NONE;
            }
            number[added] = itsNumber;
            first[added] = itsFirst;
            near[added] = 0;
            people++;
            return added;
        }

        boolean setNear(int one, int two, boolean is) {
            if (!isPair(one, two)) {
                return false;
            }
            near[one] = is ? near[one] | 1 << two : near[one] & ~(1 << two);
            near[two] = is ? near[two] | 1 << one : near[two] & ~(1 << one);
            return true;
        }

        void addHeard(int hour, boolean is) {
            heardHour[heards] = hour;
            if (is) {
                heardIs |= 1 << heards;
            }
            heards++;
        }

        boolean wasHeard(int which) {
            return (heardIs >>> which & 1) != 0;
        }

        int listenersOf(int pair) {
            int found = 0;
            for (int i = 0; i < people; i++) {
                if ((pair >>> i & 1) != 0) {
                    found |= near[i];
                }
            }
            return found & ~pair;
        }

        /** A clause of a roll; those that say nothing of people are done by doing nothing. */
        boolean isDone(int kind, int left, int right) {
            if (kind == Text.PERSON) {
                return addPerson(left, right) != NONE;
            }
            return kind != Text.NEAR || setNear(left, right, true);
        }

        int countAbout(int what) {
            switch (what) {
                case 0: return people;
                case 1: return day;
                case 2: return clock;
                case 3: return texts;
                case 4: return ruling;
                case 5: return talks;
                case 6: return givens;
                case 7: return needs;
                case 8: return heards;
                default: return NOT_KNOWN;
            }
        }
    }

    /** A text as it was read: its clauses, and their sums as one row of steps over a stack. */
    private static final class Text {
        static final int MOST_CLAUSES = 24;
        static final int BARS = 1;
        static final int WORTH = 2;
        static final int PERSON = 3;
        static final int NEAR = 4;

        int clauses;
        int bars;
        int worthAt;
        int length;
        final int[] kind = new int[MOST_CLAUSES];
        // Of bars and worth: where their steps begin and end; of person and near: their two numbers.
        final int[] left = new int[MOST_CLAUSES];
        final int[] right = new int[MOST_CLAUSES];
        final int[] code = new int[MOST_BYTES];

        void clear() {
            clauses = 0;
            bars = 0;
            worthAt = NONE;
            length = 0;
        }

        void addClause(int itsKind, int itsLeft, int itsRight) {
            if (clauses < 0 || clauses >= MOST_CLAUSES) {
                return;
            }
            kind[clauses] = itsKind;
            left[clauses] = itsLeft;
            right[clauses] = itsRight;
            if (itsKind == BARS) {
                bars++;
            }
            if (itsKind == WORTH) {
                worthAt = clauses;
            }
            clauses++;
        }

        void addStep(int step) {
            if (length >= 0 && length < MOST_BYTES) {
                code[length] = step;
                length++;
            }
        }
    }

    /** Does the steps of a text. A step up to 9999 is that number, one from NAME on a name, then come the signs. */
    private static final class Machine {
        static final int NAME = 10000;
        static final int BARS_NAMES = 4;
        static final int NAMES = 7;
        static final int ADD = 10010;
        static final int TAKE = 10011;
        static final int TIMES = 10012;
        static final int OVER = 10013;
        static final int LEAVES = 10014;
        static final int LESS = 10015;
        static final int AT_MOST = 10016;
        static final int MORE = 10017;
        static final int AT_LEAST = 10018;
        static final int LIKE = 10019;
        static final int UNLIKE = 10020;
        static final int AND = 10021;
        static final int OR = 10022;
        static final int NOT = 10023;
        static final int NEGATE = 10024;
        static final int EDGE = 1000000;
        static final int MOST_WAITING = 64;

        // clock, number, first, who; got, asked, hours
        final int[] names = new int[NAMES];
        private final int[] stack = new int[MOST_WAITING];

        int run(Text text, int from, int to) {
            int top = 0;
            for (int i = Math.max(0, from); i < to && i < MOST_BYTES; i++) {
                int step = text.code[i];
                if (step < NAME + NAMES) {
                    if (top < MOST_WAITING) {
                        stack[top] = step < NAME ? step : names[step - NAME];
                        top++;
                    }
                } else if (step == NOT || step == NEGATE) {
                    if (top > 0) {
                        stack[top - 1] = step == NOT ? 1 - stack[top - 1] : -stack[top - 1];
                    }
                } else if (top > 1) {
                    top--;
                    stack[top - 1] = join(step, stack[top - 1], stack[top]);
                }
            }
            return top > 0 ? stack[0] : 0;
        }

        private static int join(int step, int left, int right) {
            switch (step) {
                case ADD: return Math.max(-EDGE, Math.min(EDGE, left + right));
                case TAKE: return Math.max(-EDGE, Math.min(EDGE, left - right));
                case TIMES: return (int) Math.max(-EDGE, Math.min(EDGE, (long) left * right));
                case OVER: return right == 0 ? 0 : left / right;
                case LEAVES: return right == 0 ? 0 : left % right;
                case LESS: return left < right ? 1 : 0;
                case AT_MOST: return left <= right ? 1 : 0;
                case MORE: return left > right ? 1 : 0;
                case AT_LEAST: return left >= right ? 1 : 0;
                case LIKE: return left == right ? 1 : 0;
                case UNLIKE: return left != right ? 1 : 0;
                case AND: return left & right;
                case OR: return left | right;
                default: return 0;
            }
        }
    }

    /** The tape, and how a text is read from it token by token, up to its first fault. */
    private static final class Reader {
        static final int END = 0;
        static final int WORD = 1;
        static final int DIGITS = 2;
        static final int NO_TOKEN = 3;
        // Other tokens are their own sign; these two have two.
        static final int LESS_OR_LIKE = 256 + '<';
        static final int MORE_OR_LIKE = 256 + '>';
        static final String SIGNS = "<>=#+-*/%(),;";
        static final int CANT_STAND = 1;
        static final int WRONG_NUMBER = 2;
        static final int TOO_DEEP = 3;
        static final int SECOND_WORTH = 4;
        static final int WRONG_NAME = 5;
        static final int TOO_MANY = 6;
        static final int MOST_OPEN = 8;

        final int[] tape = new int[MOST_BYTES];
        int length;
        int fault = NONE;
        int place = NONE;
        private Text text;
        private boolean inWorth;
        private int token;
        private int tokenAt;
        private int tokenEnd;
        private int value;

        boolean hasRoom(int bytes) {
            return length + bytes <= MOST_BYTES;
        }

        void addFour(int bytes) {
            for (int shift = 24; shift >= 0; shift -= 8) {
                if (length >= 0 && length < MOST_BYTES) {
                    tape[length] = bytes >>> shift & 255;
                    length++;
                }
            }
        }

        boolean readAll(Text into) {
            text = into;
            text.clear();
            fault = 0;
            place = NONE;
            tokenEnd = 0;
            advance();
            for (int i = 0; i <= Text.MOST_CLAUSES && token != END && fault == 0; i++) {
                readClause(i);
            }
            return fault == 0;
        }

        private boolean readClause(int i) {
            int kind = clauseKind();
            if (kind == 0) {
                return fail(CANT_STAND);
            }
            if (kind == Text.WORTH && text.worthAt != NONE) {
                return fail(SECOND_WORTH);
            }
            if (i >= Text.MOST_CLAUSES) {
                return fail(TOO_MANY);
            }
            advance();
            if (kind == Text.PERSON) {
                return readTwo(kind, 1, GREATEST) && takeSign(';');
            }
            if (kind == Text.NEAR) {
                return readTwo(kind, 0, MOST_PEOPLE - 1) && takeSign(';');
            }
            inWorth = kind == Text.WORTH;
            int from = text.length;
            boolean good = inWorth ? readSum(0) : readEither();
            text.addClause(kind, from, text.length);
            return good && takeSign(';');
        }

        private int clauseKind() {
            if (isWord("bars")) {
                return Text.BARS;
            }
            if (isWord("worth")) {
                return Text.WORTH;
            }
            if (isWord("person")) {
                return Text.PERSON;
            }
            return isWord("near") ? Text.NEAR : 0;
        }

        private boolean readTwo(int kind, int least, int most) {
            if (!isNumberOf(least, most)) {
                return false;
            }
            int left = value;
            advance();
            boolean parted = kind == Text.PERSON ? isWord("from") : token == ',';
            if (!parted) {
                return fail(CANT_STAND);
            }
            advance();
            if (!isNumberOf(0, most)) {
                return false;
            }
            text.addClause(kind, left, value);
            advance();
            return true;
        }

        private boolean isNumberOf(int least, int most) {
            if (token != DIGITS) {
                return fail(CANT_STAND);
            }
            return value >= least && value <= most || fail(WRONG_NUMBER);
        }

        /** EITHER and BOTH in one: what is joined by and is behind it before or joins it. */
        private boolean readEither() {
            boolean joins = false;
            for (int i = 0; i < MOST_BYTES; i++) {
                if (!readAsk(0)) {
                    return false;
                }
                for (int j = 0; j < MOST_BYTES && isWord("and"); j++) {
                    advance();
                    if (!readAsk(0)) {
                        return false;
                    }
                    text.addStep(Machine.AND);
                }
                if (joins) {
                    text.addStep(Machine.OR);
                }
                if (!isWord("or")) {
                    return true;
                }
                advance();
                joins = true;
            }
            return false;
        }

        private boolean readAsk(int open) {
            if (isWord("not")) {
                if (open >= MOST_OPEN) {
                    return fail(TOO_DEEP);
                }
                advance();
                if (!readAsk(open + 1)) {
                    return false;
                }
                text.addStep(Machine.NOT);
                return true;
            }
            if (!readSum(open)) {
                return false;
            }
            int step = comparing();
            if (step == 0) {
                return fail(CANT_STAND);
            }
            advance();
            if (!readSum(open)) {
                return false;
            }
            text.addStep(step);
            return true;
        }

        private int comparing() {
            switch (token) {
                case '<': return Machine.LESS;
                case LESS_OR_LIKE: return Machine.AT_MOST;
                case '>': return Machine.MORE;
                case MORE_OR_LIKE: return Machine.AT_LEAST;
                case '=': return Machine.LIKE;
                case '#': return Machine.UNLIKE;
                default: return 0;
            }
        }

        private boolean readSum(int open) {
            int waiting = 0;
            for (int i = 0; i < MOST_BYTES; i++) {
                if (!readProduct(open)) {
                    return false;
                }
                if (waiting != 0) {
                    text.addStep(waiting);
                }
                waiting = token == '+' ? Machine.ADD : token == '-' ? Machine.TAKE : 0;
                if (waiting == 0) {
                    return true;
                }
                advance();
            }
            return false;
        }

        private boolean readProduct(int open) {
            int waiting = 0;
            for (int i = 0; i < MOST_BYTES; i++) {
                if (!readOne(open)) {
                    return false;
                }
                if (waiting != 0) {
                    text.addStep(waiting);
                }
                waiting = token == '*' ? Machine.TIMES : token == '/' ? Machine.OVER : token == '%' ? Machine.LEAVES : 0;
                if (waiting == 0) {
                    return true;
                }
                advance();
            }
            return false;
        }

        private boolean readOne(int open) {
            if (token == DIGITS || token == WORD) {
                int name = nameOf();
                int wrong = faultOfLeaf(name);
                if (wrong != 0) {
                    return fail(wrong);
                }
                text.addStep(token == DIGITS ? value : Machine.NAME + name);
                advance();
                return true;
            }
            if (token != '(' && token != '-') {
                return fail(CANT_STAND);
            }
            if (open >= MOST_OPEN) {
                return fail(TOO_DEEP);
            }
            boolean negates = token == '-';
            advance();
            if (negates) {
                boolean good = readOne(open + 1);
                text.addStep(Machine.NEGATE);
                return good;
            }
            if (!readSum(open + 1)) {
                return false;
            }
            if (token != ')') {
                return fail(CANT_STAND);
            }
            advance();
            return true;
        }

        private int faultOfLeaf(int name) {
            if (token == DIGITS) {
                return value > GREATEST ? WRONG_NUMBER : 0;
            }
            if (name == NONE) {
                return CANT_STAND;
            }
            return inWorth == name >= Machine.BARS_NAMES ? 0 : WRONG_NAME;
        }

        private int nameOf() {
            if (isWord("clock")) {
                return 0;
            }
            if (isWord("number")) {
                return 1;
            }
            if (isWord("first")) {
                return 2;
            }
            if (isWord("who")) {
                return 3;
            }
            if (isWord("got")) {
                return 4;
            }
            if (isWord("asked")) {
                return 5;
            }
            return isWord("hours") ? 6 : NONE;
        }

        private boolean takeSign(int sign) {
            if (token != sign) {
                return fail(CANT_STAND);
            }
            advance();
            return true;
        }

        private boolean fail(int what) {
            fault = what;
            place = tokenAt;
            return false;
        }

        private boolean isWord(String word) {
            if (token != WORD || tokenEnd - tokenAt != word.length() || tokenEnd > MOST_BYTES) {
                return false;
            }
            for (int i = 0; i < word.length(); i++) {
                if (tape[tokenAt + i] != word.charAt(i)) {
                    return false;
                }
            }
            return true;
        }

        private void advance() {
            int at = tokenEnd;
            while (at < length && (byteAt(at) == ' ' || byteAt(at) == '\n')) {
                at++;
            }
            tokenAt = at;
            int sign = byteAt(at);
            tokenEnd = at + 1;
            if (sign == NONE) {
                token = END;
                tokenEnd = at;
            } else if (isLetter(sign)) {
                token = WORD;
                while (tokenEnd < length && isLetter(byteAt(tokenEnd))) {
                    tokenEnd++;
                }
            } else if (isDigit(sign)) {
                token = DIGITS;
                value = sign - '0';
                while (tokenEnd < length && isDigit(byteAt(tokenEnd))) {
                    // How far above 9999 makes no odds.
                    value = Math.min(GREATEST + 1, value * 10 + byteAt(tokenEnd) - '0');
                    tokenEnd++;
                }
            } else if ((sign == '<' || sign == '>') && byteAt(tokenEnd) == '=') {
                token = 256 + sign;
                tokenEnd++;
            } else {
                token = SIGNS.indexOf((char) sign) >= 0 ? sign : NO_TOKEN;
            }
        }

        private int byteAt(int at) {
            return at >= 0 && at < length && at < MOST_BYTES ? tape[at] : NONE;
        }

        private static boolean isLetter(int sign) {
            return sign >= 'a' && sign <= 'z' || sign >= 'A' && sign <= 'Z';
        }

        private static boolean isDigit(int sign) {
            return sign >= '0' && sign <= '9';
        }
    }

    /** Who speaks when: hour by hour for one, or hours in a row for all. */
    private static final class Voices {
        static final int ROW = 1024;

        private final State now;
        private final Text[] texts;
        private final Machine machine;
        // By clocks: who isn't barred then (bits).
        private final int[] openAt = new int[MOST_CLOCK];
        // Who is due (bits), from rowStart on; by a day this is the day, again and again.
        private final int[] row = new int[ROW];
        private long rowStart;
        private int rowLength;
        private int at;
        private int clockAt;

        Voices(State now, Text[] texts, Machine machine) {
            this.now = now;
            this.texts = texts;
            this.machine = machine;
        }

        Text rulingText() {
            int ruling = now.ruling;
            return ruling >= 0 && ruling < now.texts && ruling < MOST_TEXTS ? texts[ruling] : null;
        }

        /** To be called when all, the clock or the text that rules may be others than before. */
        void openForAll() {
            for (int i = 0; i < now.people; i++) {
                openFor(i);
            }
        }

        /** To be called when one is new, or has another number or first. */
        void openFor(int one) {
            Text ruling = rulingText();
            boolean rules = ruling != null && ruling.bars > 0;
            for (int i = 0; i < now.clock; i++) {
                boolean shut = rules && isShut(ruling, one, i);
                openAt[i] = shut ? openAt[i] & ~(1 << one) : openAt[i] | 1 << one;
            }
        }

        private boolean isShut(Text ruling, int one, int itsClock) {
            machine.names[0] = itsClock;
            machine.names[1] = now.number[one];
            machine.names[2] = now.first[one];
            machine.names[3] = one;
            for (int i = 0; i < ruling.clauses; i++) {
                if (ruling.kind[i] == Text.BARS && machine.run(ruling, ruling.left[i], ruling.right[i]) != 0) {
                    return true;
                }
            }
            return false;
        }

        /** The clocks (bits) at which none of a set is barred. */
        long openClocks(int set) {
            long found = 0;
            for (int i = 0; i < now.clock; i++) {
                if ((openAt[i] & set) == set) {
                    found |= 1L << i;
                }
            }
            return found;
        }

        private boolean isDue(int one, long hour, int day) {
            long since = (day > 0 ? hour % day : hour) - now.first[one];
            return since >= 0 && since % now.number[one] == 0;
        }

        private boolean isOpen(int one, long hour) {
            return (openAt[(int) (hour % now.clock)] >>> one & 1) != 0;
        }

        boolean isHeardAt(int one, long hour) {
            return isDue(one, hour, now.day) && isOpen(one, hour);
        }

        /** Those of some (bits) who speak in an hour. */
        int heardOf(int some, long hour) {
            int found = 0;
            for (int i = 0; i < now.people; i++) {
                if ((some >>> i & 1) != 0 && isHeardAt(i, hour)) {
                    found |= 1 << i;
                }
            }
            return found;
        }

        /** In how many of n hours one speaks by a day and not by another. */
        int countAlone(int one, int day, int notBy, int n) {
            int found = 0;
            for (int i = 0; i < n; i++) {
                if (isDue(one, i, day) && !isDue(one, i, notBy) && isOpen(one, i)) {
                    found++;
                }
            }
            return found;
        }

        /** nextMask() then tells who speaks in this hour, the next, ..; n is how many will be asked for. */
        void begin(long hour, int n) {
            clockAt = (int) (hour % now.clock);
            if (now.day > 0) {
                layRow(0, now.day);
                at = (int) (hour % now.day);
            } else {
                layRow(hour, Math.min(n, ROW));
                at = 0;
            }
        }

        int nextMask() {
            if (at >= rowLength) {
                if (now.day == 0) {
                    layRow(rowStart + rowLength, rowLength);
                }
                at = 0;
            }
            int mask = row[at] & openAt[clockAt];
            at++;
            clockAt = clockAt + 1 < now.clock ? clockAt + 1 : 0;
            return mask;
        }

        private void layRow(long start, int length) {
            rowStart = start;
            rowLength = Math.max(1, Math.min(length, ROW));
            Arrays.fill(row, 0, rowLength, 0);
            for (int i = 0; i < now.people; i++) {
                int step = Math.max(1, now.number[i]);
                long ahead = now.first[i] - start;
                if (ahead < 0) {
                    ahead = Math.floorMod(ahead, (long) step);
                }
                for (long j = ahead; j < rowLength; j += step) {
                    row[(int) j] |= 1 << i;
                }
            }
        }
    }

    /** Hours in which all of a set speak, reckoned without going through them. */
    private static final class Meetings {
        private final State now;
        private final Voices voices;
        // All of a set are due in start, start + step, ..; a step above the last hour stands for any such.
        private long start;
        private long step;
        private boolean beyond;
        // The clocks (bits, as if the first were 0) that so many hours come to, a step apart; then they come again.
        private final long[] clocksOf = new long[MOST_CLOCK + 1];
        private int round;

        Meetings(State now, Voices voices) {
            this.now = now;
            this.voices = voices;
        }

        long firstFrom(int set, long hour) {
            long open = voices.openClocks(set);
            return now.day > 0 ? firstByDay(set, hour, open) : firstWithoutDay(set, hour, open);
        }

        /** How often all of a set speak from an hour to a last one. */
        long countOf(int set, long hour, long last) {
            long open = voices.openClocks(set);
            if (now.day > 0) {
                return countByDay(set, hour, last, open);
            }
            if (pairApart(set) != NONE) {
                return 0;
            }
            gather(set);
            if (beyond) {
                return 0;
            }
            moveOn(set, hour);
            layClocks(step);
            return countOpen(start, step, last, open);
        }

        /** The first two of a set who are never due in one hour, as 12 * lower + other; or NONE. */
        int pairApart(int set) {
            for (int i = 0; i < now.people; i++) {
                for (int j = i + 1; j < now.people; j++) {
                    if (isOf(i, set) && isOf(j, set) && !isMeeting(i, j)) {
                        return MOST_PEOPLE * i + j;
                    }
                }
            }
            return NONE;
        }

        private boolean isMeeting(int one, int two) {
            return (now.first[one] - now.first[two]) % gcd(now.number[one], now.number[two]) == 0;
        }

        private long firstWithoutDay(int set, long hour, long open) {
            // Congruences that agree two by two agree in all, the clock's among them: so none at all is told from far.
            if (pairApart(set) != NONE || clocksInReach(set, open) == 0) {
                return NONE;
            }
            gather(set);
            if (beyond) {
                return FAR;
            }
            moveOn(set, hour);
            for (int i = 0; i < now.clock && start <= LAST_HOUR; i++) {
                if ((open >>> (int) (start % now.clock) & 1) != 0) {
                    return start;
                }
                start += step;
            }
            return FAR;
        }

        private long clocksInReach(int set, long open) {
            long left = open;
            for (int i = 0; i < now.people; i++) {
                if (isOf(i, set)) {
                    long shared = gcd(now.number[i], now.clock);
                    for (int j = 0; j < now.clock; j++) {
                        if ((j - now.first[i]) % shared != 0) {
                            left &= ~(1L << j);
                        }
                    }
                }
            }
            return left;
        }

        /** Finds start and step of a set in which no two are apart, without a day. */
        private void gather(int set) {
            start = 0;
            step = 1;
            beyond = false;
            for (int i = 0; i < now.people && !beyond; i++) {
                if (isOf(i, set)) {
                    join(now.first[i], now.number[i]);
                }
            }
        }

        private void join(int first, int number) {
            if (step > LAST_HOUR) {
                beyond = (start - first) % number != 0;
                return;
            }
            long shared = gcd(step, number);
            long part = number / shared;
            long steps = Math.floorMod((first - start) / shared, part) * inverse(step / shared % part, part) % part;
            if (steps > (LAST_HOUR - start) / step) {
                beyond = true;
                return;
            }
            start += steps * step;
            step = step > LAST_HOUR / part ? LAST_HOUR + 1 : step * part;
        }

        /** By which a is multiplied to leave 1 by modulus; they share no divisor. */
        private static long inverse(long a, long modulus) {
            long high = modulus;
            long low = a;
            long factorHigh = 0;
            long factorLow = 1;
            for (int i = 0; i < 200 && low != 0; i++) {
                long times = high / low;
                long left = high - times * low;
                high = low;
                low = left;
                long factor = factorHigh - times * factorLow;
                factorHigh = factorLow;
                factorLow = factor;
            }
            return Math.floorMod(factorHigh, modulus);
        }

        /** Moves start to the first that isn't ahead of an hour, nor of anyone's first. */
        private void moveOn(int set, long hour) {
            long least = hour;
            for (int i = 0; i < now.people; i++) {
                if (isOf(i, set)) {
                    least = Math.max(least, now.first[i]);
                }
            }
            if (start < least) {
                start += (least - start + step - 1) / step * step;
            }
        }

        private void layClocks(long apart) {
            int turn = (int) (apart % now.clock);
            round = now.clock / (int) gcd(now.clock, turn);
            int clock = 0;
            clocksOf[0] = 0;
            for (int i = 0; i < round; i++) {
                clocksOf[i + 1] = clocksOf[i] | 1L << clock;
                clock = (clock + turn) % now.clock;
            }
        }

        /** How many of the hours from one to a last one, so far apart as layClocks() was told, come to open clocks. */
        private long countOpen(long from, long apart, long last, long open) {
            if (from > last) {
                return 0;
            }
            long hours = (last - from) / apart + 1;
            int clock = (int) (from % now.clock);
            long whole = open & turned(clocksOf[round], clock);
            long rest = open & turned(clocksOf[(int) (hours % round)], clock);
            return hours / round * Long.bitCount(whole) + Long.bitCount(rest);
        }

        /** What comes behind the last clock is left over there; no such clock is open. */
        private long turned(long clocks, int by) {
            return clocks << by | clocks >>> now.clock - by;
        }

        private long firstByDay(int set, long hour, long open) {
            int rarest = rarestOf(set);
            long found = NONE;
            for (int i = now.first[rarest]; i < now.day; i += Math.max(1, now.number[rarest])) {
                long when = areDue(set, i) ? firstOpen(inDay(hour, i), open) : NONE;
                if (when != NONE && (found == NONE || when < found)) {
                    found = when;
                }
            }
            return found > LAST_HOUR ? FAR : found;
        }

        private long firstOpen(long from, long open) {
            for (int i = 0; i < now.clock; i++) {
                long when = from + (long) i * now.day;
                if ((open >>> (int) (when % now.clock) & 1) != 0) {
                    return when;
                }
            }
            return NONE;
        }

        private long countByDay(int set, long hour, long last, long open) {
            int rarest = rarestOf(set);
            long found = 0;
            layClocks(now.day);
            for (int i = now.first[rarest]; i < now.day; i += Math.max(1, now.number[rarest])) {
                if (areDue(set, i)) {
                    found += countOpen(inDay(hour, i), now.day, last, open);
                }
            }
            return found;
        }

        /** The first hour from one on that is so far in its day. */
        private long inDay(long hour, int time) {
            long when = hour - hour % now.day + time;
            return when < hour ? when + now.day : when;
        }

        private int rarestOf(int set) {
            int rarest = lowestOf(set);
            for (int i = rarest; i < now.people; i++) {
                if (isOf(i, set) && now.number[i] > now.number[rarest]) {
                    rarest = i;
                }
            }
            return rarest;
        }

        private boolean areDue(int set, int time) {
            for (int i = 0; i < now.people; i++) {
                int since = time - now.first[i];
                if (isOf(i, set) && (since < 0 || since % now.number[i] != 0)) {
                    return false;
                }
            }
            return true;
        }
    }

    /** Hours given out so that each of a set has one of its own in which it speaks. */
    private static final class Turns {
        static final int HOURS = 64;

        final int[] allotted = new int[MOST_PEOPLE];
        private final Voices voices;
        // Bits: the hours, from the first one on, in which each speaks.
        private final long[] hoursOf = new long[MOST_PEOPLE];
        private final int[] holder = new int[HOURS];
        private long tried;

        Turns(Voices voices) {
            this.voices = voices;
        }

        int fewest(int set, long hour) {
            listHours(hour);
            if (!canAll(set, firstHours(HOURS))) {
                return NONE;
            }
            int low = Integer.bitCount(set);
            int high = HOURS;
            for (int i = 0; i < HOURS && low < high; i++) {
                int middle = (low + high) / 2;
                if (canAll(set, firstHours(middle))) {
                    high = middle;
                } else {
                    low = middle + 1;
                }
            }
            return high;
        }

        /** To be called behind fewest(), with its answer. */
        void allot(int set, int hours) {
            long free = firstHours(hours);
            int left = set;
            for (int i = 0; i < MOST_PEOPLE; i++) {
                if (isOf(i, set)) {
                    left &= ~(1 << i);
                    allotted[i] = lowestFor(i, left, free);
                    free &= ~(1L << allotted[i]);
                }
            }
        }

        private int lowestFor(int one, int others, long free) {
            for (int i = 0; i < HOURS; i++) {
                long hour = 1L << i;
                if ((hoursOf[one] & free & hour) != 0 && canAll(others, free & ~hour)) {
                    return i;
                }
            }
            return 0;
        }

        private void listHours(long hour) {
            Arrays.fill(hoursOf, 0);
            voices.begin(hour, HOURS);
            for (int i = 0; i < HOURS; i++) {
                int mask = voices.nextMask();
                for (int j = 0; j < MOST_PEOPLE; j++) {
                    hoursOf[j] |= (long) (mask >>> j & 1) << i;
                }
            }
        }

        private static long firstHours(int hours) {
            return hours >= HOURS ? -1L : (1L << hours) - 1;
        }

        private boolean canAll(int set, long free) {
            Arrays.fill(holder, NONE);
            for (int i = 0; i < MOST_PEOPLE; i++) {
                tried = 0;
                if (isOf(i, set) && !canHold(i, free, 0)) {
                    return false;
                }
            }
            return true;
        }

        /** Gives one an hour, if need be one whose holder can have another. */
        private boolean canHold(int one, long free, int depth) {
            if (depth > MOST_PEOPLE || one < 0 || one >= MOST_PEOPLE) {
                return false;
            }
            long left = hoursOf[one] & free;
            for (int i = 0; i < HOURS && left >>> i != 0; i++) {
                long hour = 1L << i;
                if ((left & hour) != 0 && (tried & hour) == 0) {
                    tried |= hour;
                    if (holder[i] == NONE || canHold(holder[i], free, depth + 1)) {
                        holder[i] = one;
                        return true;
                    }
                }
            }
            return false;
        }
    }

    /** Worths of needs, and numbers that would be worth more. */
    private static final class Gifts {
        static final int EDGE = 9999;

        int bestWorth;
        int bestWho;
        int bestLow;
        int bestHigh;
        private final State now;
        private final Voices voices;
        private final Meetings meetings;
        private final Machine machine;
        private final int[] worthNow = new int[MOST_NEEDS];

        Gifts(State now, Voices voices, Meetings meetings, Machine machine) {
            this.now = now;
            this.voices = voices;
            this.meetings = meetings;
            this.machine = machine;
        }

        int total() {
            int found = 0;
            for (int i = 0; i < now.needs; i++) {
                worthNow[i] = worthOf(i);
                found += worthNow[i];
            }
            return found;
        }

        int worthOf(int need) {
            long got = meetings.countOf(now.needPair[need], 0, now.needHours[need] - 1);
            Text ruling = voices.rulingText();
            if (ruling == null || ruling.worthAt < 0 || ruling.worthAt >= ruling.clauses) {
                return got >= now.needAsked[need] ? 1 : 0;
            }
            machine.names[4] = (int) got;
            machine.names[5] = now.needAsked[need];
            machine.names[6] = now.needHours[need];
            int found = machine.run(ruling, ruling.left[ruling.worthAt], ruling.right[ruling.worthAt]);
            return Math.max(-EDGE, Math.min(EDGE, found));
        }

        private void renumber(int one, int number) {
            now.number[one] = number;
            voices.openFor(one);
        }

        /** The best numbers for a set of one or two. */
        void findBest(int set) {
            int low = lowestOf(set);
            int others = set & ~(1 << low);
            int high = others == 0 ? low : lowestOf(others);
            int lowWas = now.number[low];
            int highWas = now.number[high];
            int ways = others == 0 ? 1 : now.givens;
            total();
            bestWorth = NO_WORTH;
            for (int i = 0; i < now.givens; i++) {
                renumber(low, now.given[i]);
                for (int j = 0; j < ways; j++) {
                    if (others != 0) {
                        renumber(high, now.given[j]);
                    }
                    isBetter(set, low, high);
                }
            }
            renumber(low, lowWas);
            renumber(high, highWas);
        }

        /** Weighs the numbers that only a set has otherwise than when total() was called. */
        private boolean isBetter(int set, int low, int high) {
            int found = 0;
            for (int i = 0; i < now.needs; i++) {
                found += (now.needPair[i] & set) == 0 ? worthNow[i] : worthOf(i);
            }
            if (found <= bestWorth) {
                return false;
            }
            bestWorth = found;
            bestLow = now.number[low];
            bestHigh = now.number[high];
            return true;
        }

        boolean findChange() {
            bestWorth = total();
            bestWho = NONE;
            for (int i = 0; i < now.people; i++) {
                int was = now.number[i];
                for (int j = 0; j < now.givens; j++) {
                    renumber(i, now.given[j]);
                    if (isBetter(1 << i, i, i)) {
                        bestWho = i;
                    }
                }
                renumber(i, was);
            }
            return bestWho != NONE;
        }
    }

    /** Numbers and firsts that are sought, without a day and bars. */
    private static final class Searches {
        static final int MOST_PARTED = 5;
        static final int GREATEST_PARTED = 60;

        private final State now;
        private int parted;
        private final int[] members = new int[MOST_PARTED];
        private final int[] firsts = new int[MOST_PARTED];
        // A row for each depth: the firsts (bits) that those who come before leave to each.
        private final long[] choices = new long[MOST_PARTED * MOST_PARTED];
        private final int[] shared = new int[MOST_PEOPLE];

        Searches(State now) {
            this.now = now;
        }

        boolean canPart(int set) {
            if (Integer.bitCount(set) > MOST_PARTED) {
                return false;
            }
            for (int i = 0; i < now.people; i++) {
                if (isOf(i, set) && now.number[i] > GREATEST_PARTED) {
                    return false;
                }
            }
            return true;
        }

        /** Finds the firsts of a set for which canPart() holds. */
        boolean part(int set) {
            parted = 0;
            for (int i = 0; i < now.people && parted < MOST_PARTED; i++) {
                if (isOf(i, set)) {
                    members[parted] = i;
                    choices[parted] = (1L << spanOf(i, set)) - 1;
                    parted++;
                }
            }
            // All firsts can be moved alike: so the lowest one's is 0.
            choices[0] = 1;
            return areSharing() && place(0);
        }

        /** Two whose numbers share no divisor meet, whatever their firsts are. */
        private boolean areSharing() {
            for (int i = 0; i < parted && i < MOST_PARTED; i++) {
                for (int j = i + 1; j < parted && j < MOST_PARTED; j++) {
                    if (gcd(now.number[members[i]], now.number[members[j]]) == 1) {
                        return false;
                    }
                }
            }
            return true;
        }

        /** From this on a first does what a lesser one does: it is at most the number. */
        private int spanOf(int one, int set) {
            long span = 1;
            for (int i = 0; i < now.people; i++) {
                if (i != one && isOf(i, set)) {
                    span = common(span, gcd(now.number[one], now.number[i]));
                }
            }
            return (int) span;
        }

        private boolean place(int index) {
            if (index >= parted || index >= MOST_PARTED) {
                return true;
            }
            long mine = choices[MOST_PARTED * index + index];
            for (int i = 0; i < GREATEST_PARTED; i++) {
                if ((mine >>> i & 1) != 0) {
                    firsts[index] = i;
                    if (leavesChoices(index) && place(index + 1)) {
                        return true;
                    }
                }
            }
            return false;
        }

        /** Lays the next depth's choices: those behind lose what one's first bars to them. */
        private boolean leavesChoices(int index) {
            for (int i = index + 1; i < parted && i < MOST_PARTED; i++) {
                int both = (int) gcd(now.number[members[index]], now.number[members[i]]);
                long left = choices[MOST_PARTED * index + i];
                for (int j = firsts[index] % both; j < GREATEST_PARTED; j += Math.max(1, both)) {
                    left &= ~(1L << j);
                }
                if (left == 0) {
                    return false;
                }
                choices[MOST_PARTED * (index + 1) + i] = left;
            }
            return true;
        }

        int firstOf(int one) {
            for (int i = 0; i < parted && i < MOST_PARTED; i++) {
                if (members[i] == one) {
                    return firsts[i];
                }
            }
            return NONE;
        }

        boolean isFitting(int number, int first) {
            for (int i = 0; i < now.heards; i++) {
                int since = now.heardHour[i] - first;
                boolean due = since >= 0 && since % number == 0;
                if (due != now.wasHeard(i)) {
                    return false;
                }
            }
            return true;
        }

        /** 1000 * number + first; or NONE. */
        int leastChild(int both, int keptFrom, int most) {
            for (int number = 1; number <= most; number++) {
                int span = spanOfChild(number, both | keptFrom);
                for (int first = 0; first < span; first++) {
                    if (isChild(first, both, keptFrom)) {
                        return 1000 * number + first;
                    }
                }
            }
            return NONE;
        }

        private int spanOfChild(int number, int some) {
            long span = 1;
            for (int i = 0; i < now.people; i++) {
                if (isOf(i, some)) {
                    shared[i] = (int) gcd(number, now.number[i]);
                    span = common(span, shared[i]);
                }
            }
            return (int) span;
        }

        private boolean isChild(int first, int both, int keptFrom) {
            for (int i = 0; i < now.people; i++) {
                if (isOf(i, both | keptFrom)) {
                    boolean meets = (first - now.first[i]) % shared[i] == 0;
                    if (meets != isOf(i, both)) {
                        return false;
                    }
                }
            }
            return true;
        }
    }

    /** All of a set in twos. */
    private static final class Couples {
        int best;
        final int[] partner = new int[MOST_PEOPLE];
        private final Meetings meetings;
        private final int[] trial = new int[MOST_PEOPLE];
        private final int[] counts = new int[MOST_PEOPLE * MOST_PEOPLE];

        Couples(Meetings meetings) {
            this.meetings = meetings;
        }

        void pairUp(int set, int n) {
            for (int i = 0; i < MOST_PEOPLE; i++) {
                for (int j = i + 1; j < MOST_PEOPLE; j++) {
                    if (isOf(i, set) && isOf(j, set)) {
                        counts[MOST_PEOPLE * i + j] = (int) meetings.countOf(1 << i | 1 << j, 0, n - 1);
                    }
                }
            }
            best = NONE;
            tryAll(set, 0, 0);
        }

        /** In the order in which like ones are to be preferred: so only a better one takes the place of another. */
        private void tryAll(int left, int sum, int depth) {
            if (left == 0 || depth > MOST_PEOPLE) {
                if (sum > best) {
                    best = sum;
                    System.arraycopy(trial, 0, partner, 0, MOST_PEOPLE);
                }
                return;
            }
            int low = lowestOf(left);
            for (int i = low + 1; i < MOST_PEOPLE; i++) {
                if (isOf(i, left)) {
                    trial[low] = i;
                    trial[i] = low;
                    tryAll(left & ~(1 << low | 1 << i), sum + counts[MOST_PEOPLE * low + i], depth + 1);
                }
            }
        }
    }

    /** The fewest of whom one speaks in every hour. */
    private static final class Cover {
        static final int FROM = 10000;
        static final int MOST_HOURS = 5040;
        static final int WORD_BITS = 64;

        private final State now;
        private final Voices voices;
        // A bit for each set of people: in some hour nobody but some of them speaks.
        private final long[] enough = new long[(1 << MOST_PEOPLE) / WORD_BITS];

        Cover(State now, Voices voices) {
            this.now = now;
            this.voices = voices;
        }

        int fewestOf() {
            int hours = hoursToCover();
            if (hours > MOST_HOURS) {
                return FAR;
            }
            Arrays.fill(enough, 0);
            voices.begin(FROM, hours);
            for (int i = 0; i < hours; i++) {
                add(voices.nextMask());
            }
            widen();
            return leastCover();
        }

        private int hoursToCover() {
            if (now.day > 0) {
                return (int) common(now.day, now.clock);
            }
            int hours = now.clock;
            for (int i = 0; i < now.people && hours <= MOST_HOURS; i++) {
                hours = (int) common(hours, now.number[i]);
            }
            return hours;
        }

        private boolean has(int set) {
            return (enough[set / WORD_BITS] >>> set % WORD_BITS & 1) != 0;
        }

        private void add(int set) {
            enough[set / WORD_BITS] |= 1L << set % WORD_BITS;
        }

        /** What is true of a set is true of every set around it. */
        private void widen() {
            for (int i = 0; i < now.people; i++) {
                for (int j = 0; j < 1 << now.people; j++) {
                    if ((j >>> i & 1) != 0 && has(j & ~(1 << i))) {
                        add(j);
                    }
                }
            }
        }

        /** A set covers all if in no hour only others speak. */
        private int leastCover() {
            int all = (1 << now.people) - 1;
            int found = NONE;
            int fewest = MOST_PEOPLE + 1;
            for (int i = 1; i <= all; i++) {
                if (Integer.bitCount(i) < fewest && !has(all & ~i)) {
                    found = i;
                    fewest = Integer.bitCount(i);
                }
            }
            return found;
        }
    }
}
