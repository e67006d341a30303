import java.util.Arrays;

/** All programs of tiny languages, side by side; ../shared/DOC.md says what each call answers. */
public final class AllPrograms {
    public static final int BAD = -1, NOT = -2, FULL = -3, STATE = -5, VOID = -2000000000;

    private static final int NOTHING_THERE = -11, OTHER_KIND = -12, NO_PLACE = -13, BELOW_ZERO = -14;
    private static final int FAULTS = -100;

    private static final int LANGUAGES = 6, TASKS = 10;
    private static final int BASIC_ORDERS = 8, ALL_ORDERS = 12;
    private static final int MOST_BITS = 6;
    /** The sum of 1 / 2 to the BITS is held in 64ths: this is 1. */
    private static final int WHOLE = 64;
    private static final int LARGEST_SIZE = 14;
    private static final int NUMBERS = 1000;
    /** Far more than there are PROGRAMS to SIZE 14: no CODE begins another, so 2 to the 14 at most. */
    private static final int ENOUGH = 1000000;

    private static final int END = 0;

    private final Language[] languages = new Language[LANGUAGES];
    private int languageCount = 0;
    private final Program looked = new Program();
    private final Program spare = new Program();
    private final Machine machine = new Machine();
    private final int[] latestRun = new int[4 + Machine.MOST_SAID];
    private boolean hasRun = false;
    private final Tape tape = new Tape();
    private final Ask[] tasks = new Ask[TASKS];
    private int taskCount = 0;
    private final Search latestSearch = new Search();
    private final Search rivalSearch = new Search();
    private boolean hasSearched = false;
    private final Told told = new Told();
    private final Poll poll = new Poll();
    private final Census survey = new Census();
    private final Acts acts = new Acts();
    private final Shelves shelves = new Shelves();

    public AllPrograms() {
        for (int i = 0; i < LANGUAGES; i++) {
            languages[i] = new Language();
        }
        for (int i = 0; i < TASKS; i++) {
            tasks[i] = new Ask();
        }
    }

    // ---- languages, programs

    public int language(int digits) {
        int sum = sumOfDigits(digits);
        if (sum == BAD) {
            return BAD;
        }
        if (sum > WHOLE) {
            return STATE;
        }
        if (languageCount >= LANGUAGES) {
            return FULL;
        }
        languages[languageCount].beMadeOf(digits);
        languageCount++;
        return languageCount - 1;
    }

    public int of(int language, int what) {
        Language asked = languageAt(language);
        if (asked == null) {
            return BAD;
        }
        if (what == 0) {
            return asked.howManyOrders();
        }
        if (what == 1) {
            return asked.sum();
        }
        if (what >= 10 && asked.has(what - 10)) {
            return asked.bitsOf(what - 10);
        }
        if (what >= 30 && asked.has(what - 30)) {
            return asked.codeOf(what - 30);
        }
        return BAD;
    }

    public int part(int language, int order, int i) {
        Language asked = languageAt(language);
        if (asked == null || order < BASIC_ORDERS || !asked.has(order)) {
            return BAD;
        }
        if (i == -1) {
            return asked.writtenLength(order);
        }
        if (i < 0 || i >= asked.writtenLength(order)) {
            return BAD;
        }
        return asked.written(order, i);
    }

    public int clear() {
        int had = looked.length();
        looked.beEmpty();
        return had;
    }

    public int add(int order) {
        if (order < 0 || order >= ALL_ORDERS || looked.isClosed()) {
            return BAD;
        }
        if (!looked.push(order)) {
            return FULL;
        }
        return looked.length();
    }

    public int order(int i) {
        return i == -1 ? looked.length() : looked.orderAt(i);
    }

    public int size(int language) {
        Language asked = languageAt(language);
        if (asked == null) {
            return BAD;
        }
        return asked.sizeOf(looked);
    }

    public int read(int language, int shelf, int i) {
        Language asked = languageAt(language);
        if (asked == null || !shelves.isShelf(shelf)) {
            return BAD;
        }
        if (shelves.holdsNothing(shelf)) {
            return NOT;
        }
        if (!shelves.holdsBooleans(shelf)) {
            return OTHER_KIND;
        }
        int answer = decoded(asked, shelf, i);
        if (answer > 0) {
            looked.become(spare);
        }
        return answer;
    }

    public int run(int language, int input, int t) {
        Language asked = languageAt(language);
        if (asked == null || !isNumber(input) || !isNumber(t)) {
            return BAD;
        }
        if (asked.sizeOf(looked) < 0) {
            return STATE;
        }
        machine.start(asked, looked, input);
        machine.goOn(t);
        machine.tell(latestRun);
        hasRun = true;
        return machine.state();
    }

    public int ran(int what) {
        if (!hasRun) {
            return BAD;
        }
        if (what >= 0 && what <= 3) {
            return latestRun[what];
        }
        if (what >= 10 && what - 10 < latestRun[3] && what - 6 < latestRun.length) {
            return latestRun[what - 6];
        }
        return BAD;
    }

    public int next(int language) {
        Language asked = languageAt(language);
        if (asked == null) {
            return BAD;
        }
        if (looked.length() > 0 && asked.sizeOf(looked) < 0) {
            return STATE;
        }
        int size = asked.follow(looked, LARGEST_SIZE);
        return size > 0 ? size : NOT;
    }

    // ---- tasks, searches

    public int feed(int n, int v) {
        if (n < 1 || n > 4) {
            return BAD;
        }
        if (tape.length() + n > Tape.MOST_BYTES) {
            return FULL;
        }
        int rest = v;
        for (int i = 0; i < n; i++) {
            tape.push(rest & 255);
            rest = rest >>> 8;
        }
        return tape.length();
    }

    public int task(int input) {
        if (!isNumber(input)) {
            return BAD;
        }
        if (taskCount >= TASKS) {
            return FULL;
        }
        int fault = tape.writeTo(tasks[taskCount], input);
        tape.beEmpty();
        if (fault >= 0) {
            return FAULTS - fault;
        }
        taskCount++;
        return taskCount - 1;
    }

    public int passes(int language, int task, int t) {
        Language asked = languageAt(language);
        Ask wanted = taskAt(task);
        if (asked == null || wanted == null || !isNumber(t)) {
            return BAD;
        }
        if (asked.sizeOf(looked) < 0) {
            return STATE;
        }
        machine.start(asked, looked, wanted.input());
        machine.goOn(t);
        return wanted.isPassedBy(machine) ? 1 : 0;
    }

    public int search(int language, int task, int phases) {
        Language asked = languageAt(language);
        Ask wanted = taskAt(task);
        if (asked == null || wanted == null || !isPhase(phases)) {
            return BAD;
        }
        latestSearch.look(asked, wanted, phases, machine);
        hasSearched = true;
        if (!latestSearch.hasAnswer()) {
            return NOT;
        }
        looked.become(latestSearch.answer());
        return latestSearch.phase();
    }

    public int searched(int what) {
        if (!hasSearched) {
            return BAD;
        }
        switch (what) {
            case 0: return latestSearch.sum();
            case 1: return latestSearch.hasAnswer() ? latestSearch.answerSteps() : NOT;
            case 2: return latestSearch.hasAnswer() ? latestSearch.factor() : NOT;
            case 3: return latestSearch.begun();
            case 4: return latestSearch.hanging();
            default: return BAD;
        }
    }

    // ---- votes, shortest ones, census

    public int say(int v) {
        if (!isNumber(v)) {
            return BAD;
        }
        if (!told.push(v)) {
            return FULL;
        }
        return told.length();
    }

    public int unsay() {
        int had = told.length();
        told.beEmpty();
        return had;
    }

    public int votes(int language, int nt, int what, int v) {
        Language asked = languageAt(language);
        if (asked == null || !isSizeAndSteps(nt) || what < 0 || what > 3) {
            return BAD;
        }
        if (what == 0 && !isNumber(v)) {
            return BAD;
        }
        poll.hold(asked, told, nt / NUMBERS, nt % NUMBERS, machine);
        switch (what) {
            case 0: return poll.votesFor(v);
            case 1: return poll.most();
            case 2: return poll.all();
            default: return poll.open();
        }
    }

    public int shortest(int language, int nt, int what) {
        Language asked = languageAt(language);
        if (asked == null || !isSizeAndSteps(nt) || what < 0 || what > 2) {
            return BAD;
        }
        poll.findShortest(asked, told, nt / NUMBERS, nt % NUMBERS, machine);
        if (what == 2) {
            return poll.howManyJust();
        }
        if (poll.howManyJust() == 0) {
            return NOT;
        }
        if (what == 1) {
            return poll.isShown() ? 1 : 0;
        }
        looked.become(poll.shortestOne());
        return asked.sizeOf(looked);
    }

    public int census(int language, int nt, int input, int what) {
        Language asked = languageAt(language);
        if (asked == null || !isSizeAndSteps(nt) || !isNumber(input) || what < 0 || what > 6) {
            return BAD;
        }
        survey.take(asked, nt / NUMBERS, nt % NUMBERS, input, machine);
        if (what == 4 && survey.mostSteps() > 0) {
            looked.become(survey.slowest());
        }
        switch (what) {
            case 0: return survey.programs();
            case 1: return survey.ended();
            case 2: return survey.hanging();
            case 3: return survey.unsettled();
            case 4: return survey.mostSteps();
            case 5: return survey.share();
            default: return survey.sureBits(nt / NUMBERS);
        }
    }

    // ---- learning

    public int helped(int language) {
        Language from = languageAt(language);
        if (from == null) {
            return BAD;
        }
        if (from.sizeOf(looked) < 0) {
            return STATE;
        }
        if (languageCount >= LANGUAGES) {
            return FULL;
        }
        languages[languageCount].beHelped(from, looked);
        languageCount++;
        return languageCount - 1;
    }

    public int learn(int language, int i, int j, int bits) {
        Language from = languageAt(language);
        if (from == null || !isPart(i, j) || bits < 1 || bits > MOST_BITS || from.howManyOrders() >= ALL_ORDERS) {
            return BAD;
        }
        if (from.sizeOf(looked) < 0 || from.sum() + (WHOLE >> bits) > WHOLE) {
            return STATE;
        }
        if (languageCount >= LANGUAGES) {
            return FULL;
        }
        languages[languageCount].beTaught(from, looked, i, j, bits);
        languageCount++;
        return languageCount - 1;
    }

    public int cheaper(int language, int other, int task, int phases) {
        Language one = languageAt(language);
        Language second = languageAt(other);
        Ask wanted = taskAt(task);
        if (one == null || second == null || wanted == null || !isPhase(phases)) {
            return VOID;
        }
        rivalSearch.look(one, wanted, phases, machine);
        if (!rivalSearch.hasAnswer()) {
            return VOID;
        }
        int sum = rivalSearch.sum();
        rivalSearch.look(second, wanted, phases, machine);
        if (!rivalSearch.hasAnswer()) {
            return VOID;
        }
        return sum - rivalSearch.sum();
    }

    public int price(int language, int other) {
        Language one = languageAt(language);
        Language second = languageAt(other);
        if (one == null || second == null) {
            return VOID;
        }
        int most = second.bitsOf(END) - one.bitsOf(END);
        for (int order = 1; order < BASIC_ORDERS; order++) {
            most = Math.max(most, second.bitsOf(order) - one.bitsOf(order));
        }
        return most;
    }

    public int translated(int language, int other) {
        Language one = languageAt(language);
        Language second = languageAt(other);
        if (one == null || second == null) {
            return BAD;
        }
        if (one.sizeOf(looked) < 0) {
            return STATE;
        }
        spare.beEmpty();
        for (int i = 0; i < looked.length(); i++) {
            int order = looked.orderAt(i);
            for (int k = 0; k < one.writtenLength(order); k++) {
                if (!spare.push(one.written(order, k))) {
                    return NOT;
                }
            }
        }
        return second.sizeOf(spare);
    }

    // ---- acts, shelves

    public int act(int order, int act, int x) {
        acts.beEmpty();
        Language asked = languageOfOrder(order);
        if (asked == null || act < 0 || act > 3) {
            return 0;
        }
        return acts.perform(order % 100, asked.bitsOf(order % 100), act, x);
    }

    public int trace(int i) {
        return acts.keptAt(i);
    }

    public int keep(int shelf, int order) {
        if (!shelves.isShelf(shelf)) {
            return BAD;
        }
        if (order == -1) {
            shelves.holdNothing(shelf);
            return 1;
        }
        if (languageOfOrder(order) == null) {
            return BAD;
        }
        shelves.holdOrder(shelf, order);
        return 1;
    }

    public int row(int shelf, int sort, int n) {
        if (!shelves.isShelf(shelf) || sort < 0 || sort > Shelves.BOOLEANS || n > Shelves.LONGEST) {
            return BAD;
        }
        if (n < 0) {
            return BELOW_ZERO;
        }
        shelves.holdRow(shelf, sort, n);
        return 1;
    }

    public int put(int shelf, int i, long v) {
        int refusal = refusalAt(shelf, i);
        if (refusal != 0) {
            return refusal;
        }
        shelves.set(shelf, i, v);
        return 1;
    }

    public long element(int shelf, int i) {
        if (refusalAt(shelf, i) != 0) {
            return Long.MIN_VALUE;
        }
        return shelves.get(shelf, i);
    }

    public int shift(int shelf, int i, int other, int j, int n) {
        if (!shelves.isShelf(shelf) || !shelves.isShelf(other)) {
            return BAD;
        }
        if (shelves.holdsNothing(shelf) || shelves.holdsNothing(other)) {
            return NOTHING_THERE;
        }
        if (!shelves.holdsRow(shelf) || shelves.sort(shelf) != shelves.sort(other)) {
            return OTHER_KIND;
        }
        if (n < 0 || !hasPlaces(shelf, i, n) || !hasPlaces(other, j, n)) {
            return NO_PLACE;
        }
        shelves.copy(shelf, i, other, j, n);
        return n;
    }

    public int taken(int shelf, int k) {
        if (!shelves.isShelf(shelf) || k < 0 || k > Acts.PART) {
            return BAD;
        }
        if (shelves.holdsNothing(shelf)) {
            return NOTHING_THERE;
        }
        if (shelves.holdsRow(shelf)) {
            return OTHER_KIND;
        }
        int kind = Acts.kindOf(shelves.heldOrder(shelf) % 100);
        return Acts.isUnder(kind, k) ? kind : OTHER_KIND;
    }

    public int count(int what) {
        switch (what) {
            case 0: return languageCount;
            case 1: return taskCount;
            case 2: return tape.length();
            case 3: return told.length();
            case 4: return acts.began();
            default: return BAD;
        }
    }

    // ---- what several calls share

    private static boolean isNumber(int v) {
        return v >= 0 && v < NUMBERS;
    }

    private static boolean isPhase(int phases) {
        return phases >= 1 && phases <= LARGEST_SIZE;
    }

    private static boolean isSizeAndSteps(int nt) {
        int n = nt / NUMBERS;
        int t = nt % NUMBERS;
        return nt > 0 && n >= 1 && n <= 12 && t >= 1 && t <= 200;
    }

    /** In 64ths; BAD where digits are not eight of 1 .. 6. */
    private static int sumOfDigits(int digits) {
        int sum = 0;
        int rest = digits;
        for (int i = 0; i < BASIC_ORDERS; i++) {
            int digit = rest % 10;
            if (digit < 1 || digit > MOST_BITS) {
                return BAD;
            }
            sum += WHOLE >> digit;
            rest = rest / 10;
        }
        return rest == 0 ? sum : BAD;
    }

    private Language languageAt(int i) {
        return i >= 0 && i < languageCount && i < languages.length ? languages[i] : null;
    }

    private Ask taskAt(int i) {
        return i >= 0 && i < taskCount && i < tasks.length ? tasks[i] : null;
    }

    /** The LANGUAGE in 100 times it and an ORDER; null where there is no such ORDER. */
    private Language languageOfOrder(int order) {
        Language asked = order < 0 ? null : languageAt(order / 100);
        return asked != null && asked.has(order % 100) ? asked : null;
    }

    /** Whether places i to j of the PROGRAM can become a PART. */
    private boolean isPart(int i, int j) {
        if (i < 0 || j < i || j >= looked.length() || j - i < 1 || j - i > 3) {
            return false;
        }
        for (int place = i; place <= j; place++) {
            if (looked.orderAt(place) == END || looked.orderAt(place) >= BASIC_ORDERS) {
                return false;
            }
        }
        return true;
    }

    /** Reads into spare; its SIZE, or NOT or STATE. */
    private int decoded(Language asked, int shelf, int from) {
        if (from < 0) {
            // no place of the ROW: the host refuses it as it does one behind the ROW's end
            return NOT;
        }
        spare.beEmpty();
        int code = 0;
        int bits = 0;
        for (int place = from; place < shelves.length(shelf); place++) {
            code = code * 2 + (shelves.get(shelf, place) != 0 ? 1 : 0);
            bits++;
            int order = asked.orderWith(code, bits);
            if (order < 0 && bits < MOST_BITS) {
                continue;
            }
            if (order < 0 || !spare.push(order)) {
                return STATE;
            }
            if (order == END) {
                return asked.sizeOf(spare);
            }
            code = 0;
            bits = 0;
        }
        return NOT;
    }

    /** 0 where element i of a ROW is there. */
    private int refusalAt(int shelf, int i) {
        if (!shelves.isShelf(shelf)) {
            return BAD;
        }
        if (shelves.holdsNothing(shelf)) {
            return NOTHING_THERE;
        }
        if (!shelves.holdsRow(shelf)) {
            return OTHER_KIND;
        }
        return hasPlaces(shelf, i, 1) ? 0 : NO_PLACE;
    }

    private boolean hasPlaces(int shelf, int from, int n) {
        return from >= 0 && from <= shelves.length(shelf) && n <= shelves.length(shelf) - from;
    }

    /** A row of at most 12 ORDERS, not yet of any LANGUAGE. */
    private static final class Program {
        private final int[] orders = new int[ALL_ORDERS];
        private int length = 0;

        int length() {
            return length;
        }

        /** BAD where there is none. */
        int orderAt(int i) {
            return i >= 0 && i < length && i < orders.length ? orders[i] : BAD;
        }

        boolean isClosed() {
            return length > 0 && orderAt(length - 1) == END;
        }

        boolean holds(int order) {
            for (int i = 0; i < length; i++) {
                if (orderAt(i) == order) {
                    return true;
                }
            }
            return false;
        }

        boolean push(int order) {
            if (length >= orders.length) {
                return false;
            }
            orders[length] = order;
            length++;
            return true;
        }

        void cut(int newLength) {
            if (newLength >= 0 && newLength < length) {
                length = newLength;
            }
        }

        void beEmpty() {
            length = 0;
        }

        void become(Program other) {
            System.arraycopy(other.orders, 0, orders, 0, orders.length);
            length = other.length;
        }
    }

    /** BITS, CODES and PARTS; never changed once it has a number. */
    private static final class Language {
        private static final int PARTS = ALL_ORDERS - BASIC_ORDERS, LONGEST_PART = 4;
        private static final int NEVER = 1000;

        private int orders = 0;
        private final int[] bits = new int[ALL_ORDERS];
        private final int[] codes = new int[ALL_ORDERS];
        private final int[] byCode = new int[ALL_ORDERS];
        private final int[][] parts = new int[PARTS][LONGEST_PART];
        private final int[] partLengths = new int[PARTS];
        /** How few ORDERS, the last one END, fill just so many bits. */
        private final int[] fewest = new int[LARGEST_SIZE + 1];

        void beMadeOf(int digits) {
            orders = BASIC_ORDERS;
            int rest = digits;
            for (int order = BASIC_ORDERS - 1; order >= 0; order--) {
                bits[order] = rest % 10;
                rest = rest / 10;
            }
            settle();
        }

        void beHelped(Language from, Program program) {
            beLike(from);
            for (int order = 0; order < orders && order < bits.length; order++) {
                // one bit less doubles the share: as much again comes to the sum
                if (program.holds(order) && bits[order] > 1 && sum() + (WHOLE >> bits[order]) <= WHOLE) {
                    bits[order]--;
                }
            }
            settle();
        }

        void beTaught(Language from, Program program, int i, int j, int partBits) {
            beLike(from);
            int part = orders - BASIC_ORDERS;
            if (part < 0 || part >= PARTS) {
                return;
            }
            for (int k = 0; k <= j - i && k < LONGEST_PART; k++) {
                parts[part][k] = program.orderAt(i + k);
            }
            partLengths[part] = j - i + 1;
            bits[orders] = partBits;
            orders++;
            settle();
        }

        private void beLike(Language from) {
            orders = from.orders;
            System.arraycopy(from.bits, 0, bits, 0, bits.length);
            System.arraycopy(from.partLengths, 0, partLengths, 0, PARTS);
            for (int part = 0; part < PARTS; part++) {
                System.arraycopy(from.parts[part], 0, parts[part], 0, LONGEST_PART);
            }
        }

        private void settle() {
            sortByBits();
            giveCodes();
            countFewest();
        }

        private void sortByBits() {
            int placed = 0;
            for (int size = 1; size <= MOST_BITS; size++) {
                for (int order = 0; order < orders && order < bits.length; order++) {
                    if (bits[order] == size && placed < byCode.length) {
                        byCode[placed] = order;
                        placed++;
                    }
                }
            }
        }

        private void giveCodes() {
            int code = 0;
            int size = bitsOf(byCode[0]);
            for (int rank = 0; rank < orders && rank < byCode.length; rank++) {
                int order = byCode[rank];
                code = code << (bitsOf(order) - size);
                size = bitsOf(order);
                if (order >= 0 && order < codes.length) {
                    codes[order] = code;
                }
                code++;
            }
        }

        private void countFewest() {
            fewest[0] = NEVER;
            for (int size = 1; size < fewest.length; size++) {
                fewest[size] = bits[END] == size ? 1 : NEVER;
                for (int order = 1; order < orders; order++) {
                    fewest[size] = Math.min(fewest[size], 1 + fewestFor(size - bitsOf(order)));
                }
            }
        }

        private int fewestFor(int size) {
            return size >= 0 && size < fewest.length ? fewest[size] : NEVER;
        }

        int howManyOrders() {
            return orders;
        }

        boolean has(int order) {
            return order >= 0 && order < orders;
        }

        int bitsOf(int order) {
            return order >= 0 && order < orders && order < bits.length ? bits[order] : 0;
        }

        int codeOf(int order) {
            return order >= 0 && order < orders && order < codes.length ? codes[order] : 0;
        }

        /** In 64ths. */
        int sum() {
            int sum = 0;
            for (int order = 0; order < orders; order++) {
                sum += WHOLE >> bitsOf(order);
            }
            return sum;
        }

        /** BAD where no CODE of so many bits is that number. */
        int orderWith(int code, int size) {
            for (int order = 0; order < orders; order++) {
                if (bitsOf(order) == size && codeOf(order) == code) {
                    return order;
                }
            }
            return BAD;
        }

        /** How many of ORDERS 0 .. 7 an ORDER is, written out. */
        int writtenLength(int order) {
            int part = order - BASIC_ORDERS;
            return part >= 0 && part < PARTS ? partLengths[part] : 1;
        }

        int written(int order, int k) {
            int part = order - BASIC_ORDERS;
            if (part < 0 || part >= PARTS) {
                return order;
            }
            return k >= 0 && k < LONGEST_PART ? parts[part][k] : END;
        }

        /** STATE where it is no PROGRAM here. */
        int sizeOf(Program program) {
            if (!program.isClosed()) {
                return STATE;
            }
            int size = 0;
            for (int i = 0; i < program.length(); i++) {
                if (!has(program.orderAt(i))) {
                    return STATE;
                }
                size += bitsOf(program.orderAt(i));
            }
            return size;
        }

        /** Makes a PROGRAM (or an empty row) the next one in order: its SIZE; 0, and no change, if none is that small. */
        int follow(Program program, int largest) {
            int size = program.length() == 0 ? 0 : sizeOf(program);
            if (size < 0 || size > largest || size > LARGEST_SIZE) {
                return 0;
            }
            if (size > 0 && becomeNextOfSize(program, size)) {
                return size;
            }
            for (int larger = size + 1; larger <= largest; larger++) {
                if (fewestFor(larger) <= ALL_ORDERS) {
                    program.beEmpty();
                    fill(program, larger);
                    return larger;
                }
            }
            return 0;
        }

        private boolean becomeNextOfSize(Program program, int size) {
            int ahead = size;
            for (int place = program.length() - 1; place >= 0; place--) {
                int order = program.orderAt(place);
                ahead -= bitsOf(order);
                int later = firstThatFits(rankOf(order) + 1, size - ahead, ALL_ORDERS - place);
                if (later >= 0) {
                    program.cut(place);
                    program.push(later);
                    fill(program, size - ahead - bitsOf(later));
                    return true;
                }
            }
            return false;
        }

        /** The first row of ORDERS that fills the bits that are left comes behind the row. */
        private void fill(Program program, int bitsLeft) {
            int left = bitsLeft;
            for (int place = program.length(); place < ALL_ORDERS && left > 0; place++) {
                int order = firstThatFits(0, left, ALL_ORDERS - place);
                if (order < 0) {
                    return;
                }
                program.push(order);
                left -= bitsOf(order);
            }
        }

        private int rankOf(int order) {
            for (int rank = 0; rank < orders && rank < byCode.length; rank++) {
                if (byCode[rank] == order) {
                    return rank;
                }
            }
            return orders;
        }

        /** By CODES, the first ORDER with which so many bits can still be filled by so many ORDERS. */
        private int firstThatFits(int fromRank, int bitsLeft, int ordersLeft) {
            for (int rank = Math.max(fromRank, 0); rank < orders && rank < byCode.length; rank++) {
                int order = byCode[rank];
                int rest = bitsLeft - bitsOf(order);
                int needed = order == END ? (rest == 0 ? 1 : NEVER) : 1 + fewestFor(rest);
                if (needed <= ordersLeft) {
                    return order;
                }
            }
            return BAD;
        }
    }

    /** Runs one PROGRAM at a time. */
    private static final class Machine {
        static final int ENDED = 0, HANGS = 1, UNSETTLED = 2;
        static final int MOST_SAID = 8;
        private static final int ONE = 1, TWICE = 2, SAY = 3, SWAP = 4, ADD = 5, BACK = 6, SKIP = 7;
        private static final int GOES_BACK_BELOW = 20;

        private final int[] orders = new int[ALL_ORDERS * Language.LONGEST_PART];
        private int length = 0;
        private int place = 0;
        private int a = 0;
        private int b = 0;
        private int steps = 0;
        private int state = UNSETTLED;
        private final int[] said = new int[MOST_SAID];
        private int saidCount = 0;
        /** A and B of the times at the first ORDER: those that bear the mark came since the latest print. */
        private final int[] marks = new int[GOES_BACK_BELOW * NUMBERS];
        private int mark = 0;

        void start(Language language, Program program, int input) {
            length = 0;
            for (int i = 0; i < program.length(); i++) {
                writeOut(language, program.orderAt(i));
            }
            place = 0;
            a = input;
            b = 0;
            steps = 0;
            state = UNSETTLED;
            saidCount = 0;
            mark++;
            wasHereBefore();
        }

        private void writeOut(Language language, int order) {
            for (int k = 0; k < language.writtenLength(order) && length < orders.length; k++) {
                orders[length] = language.written(order, k);
                length++;
            }
        }

        void goOn(int limit) {
            while (steps < limit && state == UNSETTLED) {
                steps++;
                doOrder(place >= 0 && place < orders.length ? orders[place] : END);
                if (state == UNSETTLED && place >= length) {
                    state = ENDED;
                }
            }
        }

        private void doOrder(int order) {
            place++;
            switch (order) {
                case ONE: a = (a + 1) % NUMBERS; break;
                case TWICE: a = a * 2 % NUMBERS; break;
                case SAY: print(); break;
                case SWAP: swap(); break;
                case ADD: a = (a + b) % NUMBERS; break;
                case BACK: goBack(); break;
                case SKIP: place += a % 2; break;
                default: state = ENDED; break;
            }
        }

        private void print() {
            if (saidCount >= said.length) {
                state = ENDED;
                return;
            }
            said[saidCount] = a;
            saidCount++;
            mark++;
        }

        private void swap() {
            int old = a;
            a = b;
            b = old;
        }

        private void goBack() {
            if (a >= GOES_BACK_BELOW) {
                return;
            }
            place = 0;
            if (wasHereBefore()) {
                state = HANGS;
            }
        }

        /** Whether A and B were so at the first ORDER since the latest print; they are marked then. */
        private boolean wasHereBefore() {
            if (a < 0 || a >= GOES_BACK_BELOW || b < 0 || b >= NUMBERS) {
                return false;
            }
            int pair = a * NUMBERS + b;
            boolean before = marks[pair] == mark;
            marks[pair] = mark;
            return before;
        }

        int state() {
            return state;
        }

        int steps() {
            return steps;
        }

        int valueA() {
            return a;
        }

        int valueB() {
            return b;
        }

        int saidCount() {
            return saidCount;
        }

        int saidAt(int i) {
            return i >= 0 && i < saidCount && i < said.length ? said[i] : -1;
        }

        int saidSum() {
            int sum = 0;
            for (int i = 0; i < saidCount; i++) {
                sum += saidAt(i);
            }
            return sum;
        }

        /** How many of the first numbers that were printed are those that were told. */
        int likeTold(Told told) {
            int like = 0;
            while (like < saidCount && like < told.length() && saidAt(like) == told.numberAt(like)) {
                like++;
            }
            return like;
        }

        boolean saidJust(Told told) {
            return saidCount == told.length() && likeTold(told) == saidCount;
        }

        /** STEPS, A, B, how many were printed, and these. */
        void tell(int[] answers) {
            if (answers.length < 4 + said.length) {
                return;
            }
            answers[0] = steps;
            answers[1] = a;
            answers[2] = b;
            answers[3] = saidCount;
            System.arraycopy(said, 0, answers, 4, said.length);
        }
    }

    /** THE TAPE: a text, byte by byte, and how it is read as an ask. */
    private static final class Tape {
        static final int MOST_BYTES = 60;
        private static final int MOST_OPEN = 5, MOST_DIGITS = 3;

        private final int[] bytes = new int[MOST_BYTES];
        private int length = 0;
        private int place = 0;
        private int fault = -1;

        int length() {
            return length;
        }

        void push(int value) {
            if (length < bytes.length) {
                bytes[length] = value;
                length++;
            }
        }

        void beEmpty() {
            length = 0;
        }

        /** Its FAULT; -1 where there is none, and the ask is as the text says. */
        int writeTo(Ask ask, int input) {
            place = 0;
            fault = -1;
            ask.begin(input);
            readAny(ask, 0);
            if (place < length) {
                fail();
            }
            return fault;
        }

        /** Nothing is read behind a fault, so the place stays where the first one is. */
        private void fail() {
            if (fault < 0) {
                fault = place;
            }
        }

        private int here() {
            return fault < 0 && place < length && place < bytes.length ? bytes[place] : -1;
        }

        private boolean goesOnWith(char sign) {
            if (here() != sign) {
                return false;
            }
            place++;
            return true;
        }

        /** E and its As: a sign | is written when what is behind it is whole, for & binds closer. */
        private void readAny(Ask ask, int open) {
            boolean either = false;
            readOne(ask, open);
            for (int k = 0; k < MOST_BYTES && (here() == '&' || here() == '|'); k++) {
                if (goesOnWith('&')) {
                    readOne(ask, open);
                    ask.write('&');
                } else {
                    writeIf(either, ask, '|');
                    either = goesOnWith('|');
                    readOne(ask, open);
                }
            }
            writeIf(either, ask, '|');
        }

        private static void writeIf(boolean due, Ask ask, int sign) {
            if (due) {
                ask.write(sign);
            }
        }

        private void readOne(Ask ask, int open) {
            if (here() != '!' && here() != '(') {
                readCompared(ask);
                return;
            }
            if (open >= MOST_OPEN) {
                fail();
                return;
            }
            if (goesOnWith('!')) {
                readOne(ask, open + 1);
                ask.write('!');
                return;
            }
            place++;
            readAny(ask, open + 1);
            if (!goesOnWith(')')) {
                fail();
            }
        }

        private void readCompared(Ask ask) {
            readSum(ask);
            int sign = here();
            if (sign != '=' && sign != '<' && sign != '>') {
                fail();
                return;
            }
            place++;
            readSum(ask);
            ask.write(sign);
        }

        /** S and its Ps: a sign + or - is written when what is behind it is whole, for * and % bind closer. */
        private void readSum(Ask ask) {
            int waiting = 0;
            readOperand(ask);
            for (int k = 0; k < MOST_BYTES && isSign(here()); k++) {
                int sign = here();
                boolean closer = sign == '*' || sign == '%';
                writeIf(!closer && waiting != 0, ask, waiting);
                place++;
                readOperand(ask);
                writeIf(closer, ask, sign);
                waiting = closer ? waiting : sign;
            }
            writeIf(waiting != 0, ask, waiting);
        }

        private static boolean isSign(int sign) {
            return sign == '+' || sign == '-' || sign == '*' || sign == '%';
        }

        private void readOperand(Ask ask) {
            int value = 0;
            int digits = 0;
            while (digits < MOST_DIGITS && isDigit(here())) {
                value = value * 10 + here() - '0';
                place++;
                digits++;
            }
            if (digits > 0) {
                ask.write(Ask.FIRST_NUMBER + value);
            } else if (Ask.isName(here())) {
                ask.write(here());
                place++;
            } else {
                fail();
            }
        }

        private static boolean isDigit(int sign) {
            return sign >= '0' && sign <= '9';
        }
    }

    /** A TASK: numbers, NAMES and signs, each sign behind what it joins, and the input. */
    private static final class Ask {
        /** A code below this is a NAME or a sign, by its byte; the others are numbers, from this on. */
        static final int FIRST_NUMBER = 256;

        private final int[] codes = new int[Tape.MOST_BYTES];
        private int length = 0;
        private int input = 0;
        private final int[] stack = new int[Tape.MOST_BYTES];
        private int height = 0;

        void begin(int newInput) {
            length = 0;
            input = newInput;
        }

        void write(int code) {
            if (length < codes.length) {
                codes[length] = code;
                length++;
            }
        }

        int input() {
            return input;
        }

        static boolean isName(int sign) {
            return sign == 'n' || sign == 'f' || sign == 'l' || sign == 'm' || sign == 'x' || sign == 'a' || sign == 'b';
        }

        boolean isPassedBy(Machine machine) {
            if (machine.state() != Machine.ENDED || machine.saidCount() == 0) {
                return false;
            }
            height = 0;
            for (int i = 0; i < length && i < codes.length; i++) {
                int code = codes[i];
                if (code >= FIRST_NUMBER) {
                    push(code - FIRST_NUMBER);
                } else if (isName(code)) {
                    push(valueOf(code, machine));
                } else if (code == '!') {
                    push(1 - pop());
                } else {
                    int right = pop();
                    push(joined(pop(), code, right));
                }
            }
            return pop() != 0;
        }

        private void push(int value) {
            if (height < stack.length) {
                stack[height] = value;
                height++;
            }
        }

        private int pop() {
            if (height <= 0 || height > stack.length) {
                return 0;
            }
            height--;
            return stack[height];
        }

        private int valueOf(int name, Machine machine) {
            switch (name) {
                case 'n': return machine.saidCount();
                case 'f': return machine.saidAt(0);
                case 'l': return machine.saidAt(machine.saidCount() - 1);
                case 'm': return machine.saidSum();
                case 'x': return input;
                case 'a': return machine.valueA();
                default: return machine.valueB();
            }
        }

        private static int joined(int left, int sign, int right) {
            switch (sign) {
                case '*': return left * right;
                case '%': return right == 0 ? 0 : left % right;
                case '+': return left + right;
                case '-': return left - right;
                case '=': return left == right ? 1 : 0;
                case '<': return left < right ? 1 : 0;
                case '>': return left > right ? 1 : 0;
                case '&': return left & right;
                default: return left | right;
            }
        }
    }

    /** One SEARCH, and what it came to. */
    private static final class Search {
        private final Program walker = new Program();
        private final Program answer = new Program();
        private boolean found = false;
        private int phase = 0;
        private int answerSteps = 0;
        private int answerSize = 0;
        private int sum = 0;
        private int begun = 0;
        private int hanging = 0;

        /**
         * How far a PROGRAM comes does not hang on the others, so each is run once to see in which PHASE
         * it would be the ANSWER, and once more for the STEPS that it had when the search ended.
         */
        void look(Language language, Ask task, int phases, Machine machine) {
            findAnswer(language, task, phases, machine);
            addUp(language, task.input(), phases, machine);
        }

        private void findAnswer(Language language, Ask task, int phases, Machine machine) {
            found = false;
            phase = phases + 1;
            walker.beEmpty();
            int size = language.follow(walker, phase - 1);
            for (int k = 0; k < ENOUGH && size > 0; k++) {
                machine.start(language, walker, task.input());
                machine.goOn(stepsIn(phase - 1, size));
                if (task.isPassedBy(machine)) {
                    found = true;
                    answer.become(walker);
                    answerSize = size;
                    answerSteps = machine.steps();
                    phase = phaseOf(size, answerSteps);
                }
                size = language.follow(walker, phase - 1);
            }
        }

        private void addUp(Language language, int input, int phases, Machine machine) {
            sum = 0;
            begun = 0;
            hanging = 0;
            int turns = found ? phase : phases;
            walker.beEmpty();
            int size = language.follow(walker, turns);
            for (int k = 0; k < ENOUGH && size > 0; k++) {
                machine.start(language, walker, input);
                machine.goOn(stepsIn(turns, size));
                sum += machine.steps();
                begun++;
                if (machine.state() == Machine.HANGS) {
                    hanging++;
                }
                if (found && isAnswer()) {
                    // those behind the ANSWER had no turn in its PHASE
                    turns--;
                }
                size = language.follow(walker, turns);
            }
        }

        private boolean isAnswer() {
            if (walker.length() != answer.length()) {
                return false;
            }
            for (int i = 0; i < answer.length(); i++) {
                if (walker.orderAt(i) != answer.orderAt(i)) {
                    return false;
                }
            }
            return true;
        }

        private static int stepsIn(int phase, int size) {
            int doublings = phase - size;
            return doublings < 0 || doublings > LARGEST_SIZE ? 0 : 1 << doublings;
        }

        private static int phaseOf(int size, int steps) {
            int phase = size;
            while (phase < LARGEST_SIZE && stepsIn(phase, size) < steps) {
                phase++;
            }
            return phase;
        }

        boolean hasAnswer() {
            return found;
        }

        Program answer() {
            return answer;
        }

        int phase() {
            return phase;
        }

        int answerSteps() {
            return answerSteps;
        }

        int sum() {
            return sum;
        }

        int begun() {
            return begun;
        }

        int hanging() {
            return hanging;
        }

        int factor() {
            int best = answerSteps << answerSize;
            return best <= 0 ? 0 : (sum + best - 1) / best;
        }
    }

    /** The row of numbers that is told. */
    private static final class Told {
        private final int[] numbers = new int[Machine.MOST_SAID];
        private int length = 0;

        int length() {
            return length;
        }

        int numberAt(int i) {
            return i >= 0 && i < length && i < numbers.length ? numbers[i] : -1;
        }

        boolean push(int number) {
            if (length >= numbers.length) {
                return false;
            }
            numbers[length] = number;
            length++;
            return true;
        }

        void beEmpty() {
            length = 0;
        }
    }

    /** What PROGRAMS say of the row that is told: how it goes on, and which ones print just it. */
    private static final class Poll {
        private final Program walker = new Program();
        private final Program shortest = new Program();
        private final int[] votes = new int[NUMBERS];
        private int all = 0;
        private int open = 0;
        private int just = 0;
        private boolean shown = false;

        void hold(Language language, Told told, int largest, int limit, Machine machine) {
            Arrays.fill(votes, 0);
            all = 0;
            open = 0;
            walker.beEmpty();
            int size = language.follow(walker, largest);
            for (int k = 0; k < ENOUGH && size > 0; k++) {
                machine.start(language, walker, 0);
                machine.goOn(limit);
                takeVote(machine, told, 1 << (largest - size));
                size = language.follow(walker, largest);
            }
        }

        private void takeVote(Machine machine, Told told, int weight) {
            int like = machine.likeTold(told);
            if (like == told.length() && machine.saidCount() > like) {
                int number = machine.saidAt(like);
                if (number >= 0 && number < votes.length) {
                    votes[number] += weight;
                    all += weight;
                }
            } else if (like == machine.saidCount() && machine.state() == Machine.UNSETTLED) {
                open += weight;
            }
        }

        void findShortest(Language language, Told told, int largest, int limit, Machine machine) {
            just = 0;
            shown = true;
            walker.beEmpty();
            int size = language.follow(walker, largest);
            for (int k = 0; k < ENOUGH && size > 0; k++) {
                machine.start(language, walker, 0);
                machine.goOn(limit);
                if (machine.state() == Machine.ENDED && machine.saidJust(told)) {
                    if (just == 0) {
                        shortest.become(walker);
                    }
                    just++;
                } else if (just == 0 && machine.state() == Machine.UNSETTLED) {
                    shown = false;
                }
                size = language.follow(walker, largest);
            }
        }

        int votesFor(int number) {
            return number >= 0 && number < votes.length ? votes[number] : 0;
        }

        /** NOT where nobody votes. */
        int most() {
            int best = NOT;
            for (int number = 0; number < votes.length; number++) {
                if (votes[number] > votesFor(best)) {
                    best = number;
                }
            }
            return best;
        }

        int all() {
            return all;
        }

        int open() {
            return open;
        }

        int howManyJust() {
            return just;
        }

        boolean isShown() {
            return shown;
        }

        Program shortestOne() {
            return shortest;
        }
    }

    /** How many PROGRAMS end, hang, or are not settled. */
    private static final class Census {
        private final Program walker = new Program();
        private final Program slowest = new Program();
        private int ended = 0;
        private int hanging = 0;
        private int unsettled = 0;
        private int mostSteps = 0;
        private int share = 0;
        private int unsettledShare = 0;

        void take(Language language, int largest, int limit, int input, Machine machine) {
            ended = 0;
            hanging = 0;
            unsettled = 0;
            mostSteps = 0;
            share = 0;
            unsettledShare = 0;
            walker.beEmpty();
            int size = language.follow(walker, largest);
            for (int k = 0; k < ENOUGH && size > 0; k++) {
                machine.start(language, walker, input);
                machine.goOn(limit);
                enter(machine, 1 << (largest - size));
                size = language.follow(walker, largest);
            }
        }

        private void enter(Machine machine, int weight) {
            if (machine.state() == Machine.HANGS) {
                hanging++;
            } else if (machine.state() == Machine.UNSETTLED) {
                unsettled++;
                unsettledShare += weight;
            } else {
                ended++;
                share += weight;
                if (machine.steps() > mostSteps) {
                    mostSteps = machine.steps();
                    slowest.become(walker);
                }
            }
        }

        int programs() {
            return ended + hanging + unsettled;
        }

        int ended() {
            return ended;
        }

        int hanging() {
            return hanging;
        }

        int unsettled() {
            return unsettled;
        }

        int mostSteps() {
            return mostSteps;
        }

        Program slowest() {
            return slowest;
        }

        int share() {
            return share;
        }

        /** Bits are sure from the front on, till the least and the most that the SHARE can be part. */
        int sureBits(int n) {
            int highest = (1 << n) - 1;
            int least = Math.min(share, highest);
            int most = Math.min(share + unsettledShare, highest);
            int sure = 0;
            while (sure < n && least >> (n - 1 - sure) == most >> (n - 1 - sure)) {
                sure++;
            }
            return sure;
        }
    }

    /** ACTS of ORDERS: bodies that KINDS have of their own, or from above. */
    private static final class Acts {
        static final int PART = 6;
        private static final int ORDER = 0, ENDS = 1, DOES = 2, SAYS = 3, TURNS = 4, JUMPS = 5, KINDS = 7;
        private static final int STEPS = 0, COSTS = 1, GOES = 2, TELLS = 3;
        private static final int KEPT = 24;
        /** No act goes deeper than some six bodies. */
        private static final int DEEPEST = 20;

        private final int[] trace = new int[KEPT];
        private int began = 0;
        private int kind = 0;
        private int number = 0;
        private int bits = 0;

        static int kindOf(int order) {
            switch (order) {
                case 0: return ENDS;
                case 1: case 2: case 5: return DOES;
                case 3: return SAYS;
                case 4: return TURNS;
                case 6: case 7: return JUMPS;
                default: return PART;
            }
        }

        /** Below 0 where there is none above. */
        private static int above(int kind) {
            switch (kind) {
                case ENDS: case DOES: case JUMPS: return ORDER;
                case SAYS: case TURNS: return DOES;
                case PART: return JUMPS;
                default: return -1;
            }
        }

        static boolean isUnder(int kind, int top) {
            int now = kind;
            for (int level = 0; level < KINDS && now >= ORDER; level++) {
                if (now == top) {
                    return true;
                }
                now = above(now);
            }
            return false;
        }

        int began() {
            return began;
        }

        /** BAD where none is kept. */
        int keptAt(int i) {
            return i >= 0 && i < began && i < trace.length ? trace[i] : BAD;
        }

        void beEmpty() {
            began = 0;
        }

        int perform(int order, int orderBits, int act, int x) {
            kind = kindOf(order);
            number = order;
            bits = orderBits;
            return from(kind, act, x, 0);
        }

        /** The body of a KIND, or of the next one above that has one. */
        private static int bodyOf(int kind, int act) {
            int now = kind;
            for (int level = 0; level < KINDS && now > ORDER; level++) {
                int body = ownBody(now, act);
                if (body > 0) {
                    return body;
                }
                now = above(now);
            }
            switch (act) {
                case STEPS: return 1;
                case COSTS: return 10;
                case GOES: return 11;
                default: return 2;
            }
        }

        private static int ownBody(int kind, int act) {
            switch (kind) {
                case ENDS: return act == GOES ? 20 : 0;
                case DOES: return act == STEPS ? 30 : 0;
                case SAYS: return act == COSTS ? 40 : 0;
                case TURNS: return act == TELLS ? 50 : 0;
                case JUMPS: return act == GOES ? 60 : 0;
                case PART: return act == STEPS ? 70 : act == GOES ? 71 : 0;
                default: return 0;
            }
        }

        private int from(int start, int act, int x, int depth) {
            if (depth > DEEPEST) {
                return 0;
            }
            int body = bodyOf(start, act);
            if (began < trace.length) {
                trace[began] = body;
            }
            began++;
            return perform(body, x, depth + 1);
        }

        private int perform(int body, int x, int depth) {
            switch (body) {
                case 1: return x + number;
                case 2: return own(COSTS, x, depth) - own(GOES, 1, depth);
                case 10: return own(STEPS, x, depth) * bits;
                case 11: return x ^ number;
                case 20: return -from(above(ENDS), GOES, x, depth);
                case 30: return from(above(DOES), STEPS, x, depth) + 1;
                case 40: return from(above(SAYS), COSTS, x, depth) + own(STEPS, 2, depth);
                case 50: return from(above(TURNS), TELLS, x, depth) ^ 6;
                case 60: return from(above(JUMPS), GOES, x, depth) * 3;
                case 70: return from(above(PART), STEPS, x + 1, depth);
                case 71: return from(above(PART), GOES, x, depth) - own(COSTS, 1, depth);
                default: return 0;
            }
        }

        private int own(int act, int x, int depth) {
            return from(kind, act, x, depth);
        }
    }

    /** SHELVES: each holds nothing, an ORDER, or a ROW of one of five sorts. */
    private static final class Shelves {
        static final int LONGEST = 60;
        static final int BOOLEANS = 4;
        private static final int SHELVES = 6;
        private static final int BYTES = 0, SHORTS = 1, INTS = 2, LONGS = 3;
        /** Beside the sorts of ROWS, what a SHELF may hold. */
        private static final int AN_ORDER = 5, NOTHING = 6;

        private final int[] holds = new int[SHELVES];
        private final int[] orders = new int[SHELVES];
        private final int[] lengths = new int[SHELVES];
        private final long[][] elements = new long[SHELVES][LONGEST];

        Shelves() {
            Arrays.fill(holds, NOTHING);
        }

        boolean isShelf(int shelf) {
            return shelf >= 0 && shelf < SHELVES;
        }

        /** A ROW's sort, or that it is none. */
        int sort(int shelf) {
            return isShelf(shelf) ? holds[shelf] : NOTHING;
        }

        boolean holdsNothing(int shelf) {
            return sort(shelf) == NOTHING;
        }

        boolean holdsRow(int shelf) {
            return sort(shelf) <= BOOLEANS;
        }

        boolean holdsBooleans(int shelf) {
            return sort(shelf) == BOOLEANS;
        }

        int heldOrder(int shelf) {
            return isShelf(shelf) ? orders[shelf] : 0;
        }

        int length(int shelf) {
            return isShelf(shelf) ? lengths[shelf] : 0;
        }

        void holdNothing(int shelf) {
            become(shelf, NOTHING, 0, 0);
        }

        void holdOrder(int shelf, int order) {
            become(shelf, AN_ORDER, order, 0);
        }

        void holdRow(int shelf, int sort, int n) {
            become(shelf, sort, 0, n);
        }

        private void become(int shelf, int what, int order, int n) {
            if (!isShelf(shelf)) {
                return;
            }
            holds[shelf] = what;
            orders[shelf] = order;
            lengths[shelf] = n;
            Arrays.fill(elements[shelf], 0L);
        }

        long get(int shelf, int i) {
            return isShelf(shelf) && i >= 0 && i < lengths[shelf] && i < LONGEST ? elements[shelf][i] : 0L;
        }

        void set(int shelf, int i, long v) {
            if (isShelf(shelf) && i >= 0 && i < lengths[shelf] && i < LONGEST) {
                elements[shelf][i] = held(v, holds[shelf]);
            }
        }

        private static long held(long v, int sort) {
            switch (sort) {
                case BYTES: return (byte) v;
                case SHORTS: return (short) v;
                case INTS: return (int) v;
                case LONGS: return v;
                default: return v != 0L ? 1L : 0L;
            }
        }

        /** The places are there: the caller has looked. */
        void copy(int shelf, int i, int other, int j, int n) {
            if (!isShelf(shelf) || !isShelf(other) || i < 0 || j < 0 || n < 0) {
                return;
            }
            if (n <= LONGEST - i && n <= LONGEST - j) {
                System.arraycopy(elements[shelf], i, elements[other], j, n);
            }
        }
    }
}
