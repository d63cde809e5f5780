import java.util.ArrayList;
import java.util.List;
import java.util.NoSuchElementException;

/**
 * What to read next: topics that imply one another, a shelf of pieces that need and give them, the
 * ways to a wish, the weeks that a way is laid in, and the questions that tell what one knows.
 *
 * <p>Sets of topics are bits of an int all over. Every row that a call needs is made with the
 * object and used again, so that calls make nothing but the pieces themselves.
 */
public final class WhatToRead {
    public static final int NONE = -1;

    private static final int CANNOT = -2;
    private static final int MOST_TOPICS = 12;
    private static final int SETS = 1 << MOST_TOPICS;
    private static final int MOST_WORTH = 9;
    private static final int MOST_PIECES = 14;
    private static final int MOST_PAGES = 400;
    private static final int MOST_PACE = 10;
    private static final int FIRST_PACE = 2;
    private static final int MOST_MINUTES = 10000;
    private static final int WEEKS = 52;
    private static final int MOST_WEEK_MINUTES = 3000;
    private static final int FIRST_WEEK_MINUTES = 300;
    private static final int MOST_STATES_FOR_WORST = 64;

    private final Topics topics;
    private final Shelf shelf;
    private final Ways ways;
    private final Row row;
    private final Weeks weeks;
    private final Asking asking;
    private int known;

    public WhatToRead() {
        topics = new Topics();
        shelf = new Shelf();
        ways = new Ways();
        row = new Row();
        weeks = new Weeks();
        asking = new Asking();
        known = 0;
    }

    public int topic(int worth, int implies) {
        if (!isWithin(worth, 0, MOST_WORTH) || !topics.haveAll(implies)) {
            return NONE;
        }
        int number = topics.add(worth, implies);
        if (number != NONE) {
            asking.addTopic(number, topics.impliedBy(number));
        }
        return number;
    }

    public int piece(int needs, int either, int gives, int skim, int pages) {
        if (!topics.haveAll(needs) || !topics.haveAll(either) || !topics.haveAll(gives)) {
            return NONE;
        }
        if (gives == 0 || (skim & ~gives) != 0 || !isWithin(pages, 1, MOST_PAGES)) {
            return NONE;
        }
        int given = topics.closure(gives);
        return shelf.add(new Piece(needs, either, given, topics.closure(skim), pages));
    }

    public int drop() {
        return shelf.removeLast();
    }

    public int pace(int v) {
        return isWithin(v, 1, MOST_PACE) ? shelf.changePace(v) : NONE;
    }

    public int know(int bits) {
        if (!topics.haveAll(bits)) {
            return NONE;
        }
        known = topics.closure(bits);
        return known;
    }

    public int count(int what) {
        switch (what) {
            case 0:
                return topics.size();
            case 1:
                return shelf.size();
            case 2:
                return known;
            case 3:
                return shelf.currentPace();
            case 4:
                return topics.worthOf(known);
            case 5:
                return row.size();
            default:
                return NONE;
        }
    }

    public int with(int bits) {
        return topics.haveAll(bits) ? topics.closure(bits) : NONE;
    }

    public int minutes(int step) {
        return shelf.minutesOf(step);
    }

    public int can(int step) {
        Piece piece = shelf.pieceOf(step);
        if (piece == null) {
            return NONE;
        }
        return piece.isOpenTo(known) ? 1 : 0;
    }

    public int done(int step) {
        Piece piece = shelf.pieceOf(step);
        if (piece == null || !piece.isOpenTo(known)) {
            return NONE;
        }
        known |= piece.brings(isSkimmed(step));
        return known;
    }

    // ---- ways

    public int way(int wish) {
        int end = endOfBestWay(wish, NONE);
        if (end == NONE) {
            return NONE;
        }
        ways.copyRow(end, row);
        return ways.minutesTo(end);
    }

    public int step(int i) {
        return row.at(i);
    }

    public int most(int minutes) {
        if (!isWithin(minutes, 0, MOST_MINUTES)) {
            return NONE;
        }
        ways.explore(shelf, topics.size(), known, NONE);
        int end = ways.richestEnd(topics, minutes);
        if (end == NONE) {
            return NONE;
        }
        ways.copyRow(end, row);
        return topics.worthOf(end);
    }

    public int reach() {
        int reached = known;
        // Each round but the last brings a new topic, so there is no need for more than these.
        for (int round = 0; round < MOST_TOPICS; round++) {
            reached = shelf.readAllOpenTo(reached);
        }
        return reached;
    }

    public int gaps() {
        return shelf.allNeeded() & ~shelf.allGiven() & ~known;
    }

    public int shortens(int piece, int wish) {
        if (!isWithin(piece, 0, shelf.size() - 1)) {
            return NONE;
        }
        int endWith = endOfBestWay(wish, NONE);
        if (endWith == NONE) {
            return NONE;
        }
        int minutesWith = ways.minutesTo(endWith);
        int endWithout = endOfBestWay(wish, piece);
        return endWithout == NONE ? CANNOT : ways.minutesTo(endWithout) - minutesWith;
    }

    // ---- weeks

    public boolean week(int week, int minutes) {
        if (!isWithin(week, 0, WEEKS - 1) || !isWithin(minutes, 0, MOST_WEEK_MINUTES)) {
            return false;
        }
        weeks.change(week, minutes);
        return true;
    }

    public int lay(int from) {
        return weeks.layRow(row, shelf, from);
    }

    public int laid(int i) {
        return weeks.weekOf(i);
    }

    // ---- asking

    public int answer(int topic, boolean is) {
        return isWithin(topic, 0, topics.size() - 1) ? asking.accept(topic, is) : NONE;
    }

    public int ask() {
        asking.startAnew();
        for (int topic = 0; topic < topics.size(); topic++) {
            asking.addTopic(topic, topics.impliedBy(topic));
        }
        return asking.size();
    }

    public int states() {
        return asking.size();
    }

    public int question() {
        return asking.nextQuestion();
    }

    public int worst() {
        return asking.mostQuestions();
    }

    public int settle() {
        known = asking.inCommon();
        return known;
    }

    public int state(int i) throws NoSuchElementException {
        int set = asking.at(i);
        if (set == NONE) {
            throw new NoSuchElementException("no such state");
        }
        return set;
    }

    /** The set of topics that the best way ends with, NONE if there is no way or no such wish. */
    private int endOfBestWay(int wish, int withoutPiece) {
        if (!topics.haveAll(wish)) {
            return NONE;
        }
        ways.explore(shelf, topics.size(), known, withoutPiece);
        return ways.endWith(wish);
    }

    private static boolean isWithin(int value, int least, int most) {
        return value >= least && value <= most;
    }

    private static boolean isSkimmed(int step) {
        return (step & 1) == 1;
    }

    /** The topics: what each is worth, and what is known with it. */
    private static final class Topics {
        private final int[] worths;
        /** Of each topic: its own bit and those of all that it implies. */
        private final int[] closures;
        private int count;

        Topics() {
            worths = new int[MOST_TOPICS];
            closures = new int[MOST_TOPICS];
            count = 0;
        }

        int size() {
            return count;
        }

        boolean haveAll(int bits) {
            return bits >= 0 && bits < 1 << count;
        }

        /** NONE behind the last. A topic implies only older ones, so its closure never changes later. */
        int add(int worth, int implies) {
            int number = count;
            if (number >= worths.length || number >= closures.length) {
                return NONE;
            }
            worths[number] = worth;
            closures[number] = 1 << number | closure(implies);
            count++;
            return number;
        }

        int closure(int bits) {
            int all = bits;
            for (int topic = 0; topic < closures.length; topic++) {
                if ((bits >> topic & 1) == 1) {
                    all |= closures[topic];
                }
            }
            return all;
        }

        int impliedBy(int topic) {
            int bit = 1 << topic;
            return closure(bit) & ~bit;
        }

        int worthOf(int bits) {
            int sum = 0;
            for (int topic = 0; topic < worths.length; topic++) {
                if ((bits >> topic & 1) == 1) {
                    sum += worths[topic];
                }
            }
            return sum;
        }
    }

    /** A piece of the shelf; given and skimmed hold what they imply, needs and either as told. */
    private static final class Piece {
        private final int needs;
        private final int either;
        private final int given;
        private final int skimmed;
        private final int pages;

        Piece(int needs, int either, int given, int skimmed, int pages) {
            this.needs = needs;
            this.either = either;
            this.given = given;
            this.skimmed = skimmed;
            this.pages = pages;
        }

        boolean isOpenTo(int known) {
            return (known & needs) == needs && (either == 0 || (known & either) != 0);
        }

        int needed() {
            return needs;
        }

        int brings(boolean skim) {
            return skim ? skimmed : given;
        }

        int minutesAt(int pace, boolean skim) {
            int all = pages * pace;
            return skim ? (all + 2) / 3 : all;
        }
    }

    /** The pieces in their order, and the pace that they are read at. */
    private static final class Shelf {
        private final List<Piece> pieces;
        private int pace;

        Shelf() {
            pieces = new ArrayList<>();
            pace = FIRST_PACE;
        }

        int size() {
            return pieces.size();
        }

        int currentPace() {
            return pace;
        }

        int changePace(int next) {
            int before = pace;
            pace = next;
            return before;
        }

        int add(Piece piece) {
            if (pieces.size() >= MOST_PIECES) {
                return NONE;
            }
            pieces.add(piece);
            return pieces.size() - 1;
        }

        int removeLast() {
            if (pieces.isEmpty()) {
                return NONE;
            }
            pieces.remove(pieces.size() - 1);
            return pieces.size();
        }

        /** The piece of a step, null if there is none. */
        Piece pieceOf(int step) {
            int number = step >> 1;
            return number >= 0 && number < pieces.size() ? pieces.get(number) : null;
        }

        int minutesOf(int step) {
            Piece piece = pieceOf(step);
            return piece == null ? NONE : piece.minutesAt(pace, isSkimmed(step));
        }

        int readAllOpenTo(int known) {
            int reached = known;
            for (int i = 0; i < pieces.size(); i++) {
                Piece piece = pieces.get(i);
                if (piece.isOpenTo(reached)) {
                    reached |= piece.brings(false);
                }
            }
            return reached;
        }

        int allNeeded() {
            int bits = 0;
            for (int i = 0; i < pieces.size(); i++) {
                bits |= pieces.get(i).needed();
            }
            return bits;
        }

        int allGiven() {
            int bits = 0;
            for (int i = 0; i < pieces.size(); i++) {
                bits |= pieces.get(i).brings(false);
            }
            return bits;
        }
    }

    /** Up to twelve numbers in a row: no row of steps that each give something new is longer. */
    private static final class Row {
        private final int[] items;
        private int count;

        Row() {
            items = new int[MOST_TOPICS];
            count = 0;
        }

        int size() {
            return count;
        }

        int at(int i) {
            return i >= 0 && i < count && i < items.length ? items[i] : NONE;
        }

        void clear() {
            count = 0;
        }

        void add(int item) {
            if (count >= 0 && count < items.length) {
                items[count] = item;
                count++;
            }
        }

        void become(Row other) {
            clear();
            for (int i = 0; i < other.size(); i++) {
                add(other.at(i));
            }
        }
    }

    /**
     * The best row of steps to each set of topics that can be known.
     *
     * <p>A step that gives something new leads to a set with a greater number: going through the
     * sets in ascending order meets each one when its own best row is settled.
     */
    private static final class Ways {
        private static final int UNREACHED = -1;
        /** Minutes weigh more than steps, of which there are at most twelve. */
        private static final int MINUTE = 16;
        private static final int BITS_OF_STEP = 5;
        private static final int MASK_OF_STEP = (1 << BITS_OF_STEP) - 1;

        /** MINUTE times the minutes, and the steps. */
        private final int[] costs;
        /** The steps, five bits each, the first one highest: of equally long ones the less is first. */
        private final long[] rows;
        private int sets;

        Ways() {
            costs = new int[SETS];
            rows = new long[SETS];
            sets = 0;
        }

        void explore(Shelf shelf, int topicCount, int known, int withoutPiece) {
            sets = Math.min(1 << topicCount, SETS);
            for (int set = 0; set < sets; set++) {
                costs[set] = UNREACHED;
            }
            if (known < 0 || known >= sets) {
                return;
            }
            costs[known] = 0;
            rows[known] = 0;
            for (int set = known; set < sets; set++) {
                if (costs[set] != UNREACHED) {
                    goOnFrom(set, shelf, withoutPiece);
                }
            }
        }

        private void goOnFrom(int set, Shelf shelf, int withoutPiece) {
            for (int step = 0; step < 2 * shelf.size(); step++) {
                Piece piece = shelf.pieceOf(step);
                if (piece != null && step >> 1 != withoutPiece && piece.isOpenTo(set)) {
                    offer(set, set | piece.brings(isSkimmed(step)), shelf.minutesOf(step), step);
                }
            }
        }

        private void offer(int from, int to, int minutes, int step) {
            if (from < 0 || to <= from || to >= sets) {
                return;
            }
            int cost = costs[from] + MINUTE * minutes + 1;
            long steps = rows[from] << BITS_OF_STEP | step;
            if (costs[to] == UNREACHED || isBefore(cost, steps, to)) {
                costs[to] = cost;
                rows[to] = steps;
            }
        }

        private boolean isBefore(int cost, long steps, int set) {
            return cost != costs[set] ? cost < costs[set] : steps < rows[set];
        }

        private boolean isBetter(int set, int end) {
            return end == NONE || isBefore(costs[set], rows[set], end);
        }

        int endWith(int wish) {
            int end = NONE;
            for (int set = 0; set < sets; set++) {
                if (costs[set] != UNREACHED && (set & wish) == wish && isBetter(set, end)) {
                    end = set;
                }
            }
            return end;
        }

        int richestEnd(Topics topics, int minutes) {
            int end = NONE;
            int most = 0;
            for (int set = 0; set < sets; set++) {
                if (costs[set] == UNREACHED || minutesTo(set) > minutes) {
                    continue;
                }
                int worth = topics.worthOf(set);
                if (worth > most || worth == most && isBetter(set, end)) {
                    end = set;
                    most = worth;
                }
            }
            return end;
        }

        int minutesTo(int set) {
            return set >= 0 && set < sets ? costs[set] / MINUTE : NONE;
        }

        void copyRow(int set, Row row) {
            if (set < 0 || set >= sets) {
                return;
            }
            row.clear();
            for (int behind = costs[set] % MINUTE - 1; behind >= 0; behind--) {
                row.add((int) (rows[set] >> BITS_OF_STEP * behind) & MASK_OF_STEP);
            }
        }
    }

    /** The weeks, and where the steps of a row were laid in them. */
    private static final class Weeks {
        private final int[] minutes;
        private final Row laidWeeks;
        private final Row draft;

        Weeks() {
            minutes = new int[WEEKS];
            for (int week = 0; week < minutes.length; week++) {
                minutes[week] = FIRST_WEEK_MINUTES;
            }
            laidWeeks = new Row();
            draft = new Row();
        }

        void change(int week, int next) {
            if (week >= 0 && week < minutes.length) {
                minutes[week] = next;
            }
        }

        int weekOf(int i) {
            return laidWeeks.at(i);
        }

        int layRow(Row row, Shelf shelf, int from) {
            if (from < 0 || from >= minutes.length) {
                return NONE;
            }
            int week = from;
            int left = minutes[from];
            // What was laid before stays where this row can't be laid: hence a draft.
            draft.clear();
            for (int i = 0; i < row.size(); i++) {
                int needed = shelf.minutesOf(row.at(i));
                while (left < needed && week + 1 < minutes.length) {
                    week++;
                    left = minutes[week];
                }
                if (needed == NONE || left < needed) {
                    return CANNOT;
                }
                left -= needed;
                draft.add(week);
            }
            laidWeeks.become(draft);
            return week;
        }
    }

    /** The states that agree with all answers, and the questions that tell them apart. */
    private static final class Asking {
        /** Ascending as bits. */
        private final int[] sets;
        private final int[] scratch;
        private int count;
        private int answered;

        Asking() {
            sets = new int[SETS];
            scratch = new int[MOST_STATES_FOR_WORST];
            count = 1;
            answered = 0;
        }

        int size() {
            return count;
        }

        int at(int i) {
            return i >= 0 && i < count && i < sets.length ? sets[i] : NONE;
        }

        /** Without topics just the empty set is a state. */
        void startAnew() {
            sets[0] = 0;
            count = 1;
            answered = 0;
        }

        /** The new bit is the highest, so that the states behind the old ones keep the order. */
        void addTopic(int topic, int implied) {
            int old = count;
            for (int i = 0; i < old && count < sets.length; i++) {
                if ((sets[i] & implied) == implied) {
                    sets[count] = sets[i] | 1 << topic;
                    count++;
                }
            }
        }

        int accept(int topic, boolean is) {
            int having = countHaving(sets, 0, count, topic);
            int left = is ? having : count - having;
            if ((answered >> topic & 1) == 1 || left == 0) {
                return NONE;
            }
            answered |= 1 << topic;
            keep(topic, is);
            return count;
        }

        private void keep(int topic, boolean is) {
            int kept = 0;
            for (int i = 0; i < count && i < sets.length; i++) {
                if (has(sets[i], topic) == is) {
                    sets[kept] = sets[i];
                    kept++;
                }
            }
            count = kept;
        }

        int inCommon() {
            int common = SETS - 1;
            for (int i = 0; i < count && i < sets.length; i++) {
                common &= sets[i];
            }
            return common;
        }

        int nextQuestion() {
            return bestTopic(sets, 0, count);
        }

        int mostQuestions() {
            if (count > scratch.length) {
                return NONE;
            }
            for (int i = 0; i < count && i < sets.length; i++) {
                scratch[i] = sets[i];
            }
            return questionsUntilOne(scratch, 0, count, 0);
        }

        /** Each level settles a topic of its own: twelve levels are all there can be. */
        private static int questionsUntilOne(int[] sets, int from, int to, int depth) {
            int topic = bestTopic(sets, from, to);
            if (topic == NONE || depth >= MOST_TOPICS) {
                return 0;
            }
            int edge = split(sets, from, to, topic);
            int lacking = questionsUntilOne(sets, from, edge, depth + 1);
            int having = questionsUntilOne(sets, edge, to, depth + 1);
            return 1 + Math.max(lacking, having);
        }

        /** All states agree on what was answered, so that a topic that parts them was not. */
        private static int bestTopic(int[] sets, int from, int to) {
            int best = NONE;
            int fewest = to - from;
            for (int topic = 0; topic < MOST_TOPICS; topic++) {
                int having = countHaving(sets, from, to, topic);
                int more = Math.max(having, to - from - having);
                if (more < fewest) {
                    best = topic;
                    fewest = more;
                }
            }
            return best;
        }

        private static int countHaving(int[] sets, int from, int to, int topic) {
            int having = 0;
            for (int i = Math.max(from, 0); i < to && i < sets.length; i++) {
                having += sets[i] >> topic & 1;
            }
            return having;
        }

        /** Brings the sets without the topic ahead of those with it: where these begin. */
        private static int split(int[] sets, int from, int to, int topic) {
            int edge = Math.max(from, 0);
            for (int i = edge; i < to && i < sets.length; i++) {
                int set = sets[i];
                if (!has(set, topic)) {
                    sets[i] = sets[edge];
                    sets[edge] = set;
                    edge++;
                }
            }
            return edge;
        }

        private static boolean has(int set, int topic) {
            return (set >> topic & 1) == 1;
        }
    }
}
