import java.util.NoSuchElementException;

/** A long table at which each has seen a little: how often the many are right, exactly, in whole PARTS. */
public final class LongTable {
    public static final int NONE = -1;

    private static final int NO_VOTE = 9;
    private static final int MOST_VOTERS = 7;
    /** For so many at most all orders, all WEIGHTS are tried. */
    private static final int FEW_VOTERS = 5;
    /** Three TRUTHS and three SIGNS at most: the side of every flat table. */
    private static final int SIDE = 3;
    /** Chances are told in twentieths. */
    private static final int WHOLE = 20;
    /** Above all that can be LOST: 50 times 20^8. */
    private static final long MORE_THAN_ANY = 1L << 60;

    private final Tape tape;
    /** One for the MATTER now, one for that of the latest inTurns(), one to read the next into. */
    private final Matter[] pool;
    private final Reader reader;
    private final Rows rows;
    private final Replies replies;
    private final Turns turns;
    /** Apart from turns, so that trying orders leaves the latest inTurns() as it is. */
    private final Turns trial;
    private final Rules rules;
    private final Words words;
    private final Run run;
    private final long[] comes;
    private Matter matter;

    public LongTable() {
        tape = new Tape();
        pool = new Matter[SIDE];
        for (int i = 0; i < SIDE; i++) {
            pool[i] = new Matter();
        }
        matter = pool[0];
        reader = new Reader(tape, matter);
        rows = new Rows(matter);
        replies = new Replies(rows, matter);
        turns = new Turns(matter);
        trial = new Turns(matter);
        rules = new Rules(rows);
        words = new Words(matter);
        run = new Run();
        comes = new long[SIDE * SIDE];
    }

    public int feed(int a, int b, int c, int d, int e) {
        return tape.take(a, b, c, d, e);
    }

    public boolean end(int n) {
        return tape.cut(n);
    }

    public int matter() {
        Matter draft = spareMatter();
        int answer = reader.read(draft);
        if (answer >= 0) {
            draft.finish();
            matter = draft;
        }
        tape.clear();
        return answer;
    }

    public int fault() {
        return reader.fault;
    }

    public int count(int what) {
        switch (what) {
            case 0:
                return matter.truths;
            case 1:
                return matter.voters;
            case 2:
                return tape.length;
            default:
                return NONE;
        }
    }

    public int signs(int v) {
        return matter.hasVoter(v) ? matter.voter[v].signs : NONE;
    }

    public long parts(int t) throws NoSuchElementException {
        if (!matter.hasTruth(t) || !matter.hasSigns(tape)) {
            throw new NoSuchElementException();
        }
        long parts = matter.partsOf(t, tape.bytes);
        tape.clear();
        return parts;
    }

    public long all() {
        if (matter.isEmpty()) {
            return 0;
        }
        return power(WHOLE, matter.voters + 1);
    }

    public int vote(int v, int s) {
        return matter.hasSign(v, s) ? matter.votes[v * SIDE + s] : NONE;
    }

    public int decided() {
        int answer = matter.hasSigns(tape) ? matter.decidesWithSigns(tape.bytes) : NONE;
        tape.clear();
        return answer;
    }

    public long right() {
        if (matter.isEmpty()) {
            return 0;
        }
        rows.voting(matter, matter.votes);
        rows.sumUp(comes);
        return rightOf(comes);
    }

    public long comes(int t, int d) throws NoSuchElementException {
        if (!matter.hasTruth(t) || !matter.hasTruth(d)) {
            throw new NoSuchElementException();
        }
        rows.voting(matter, matter.votes);
        rows.sumUp(comes);
        return comes[t * SIDE + d];
    }

    public long lost() {
        return matter.isEmpty() ? 0 : lostWithout(NONE, NONE);
    }

    public int known() {
        int answer = matter.hasSigns(tape) ? matter.knownBy(tape.bytes) : NONE;
        tape.clear();
        return answer;
    }

    public long knows(int what) throws NoSuchElementException {
        if (matter.isEmpty() || what < 0 || what > 1) {
            throw new NoSuchElementException();
        }
        rows.seeing(matter);
        rows.sumUpBest(comes);
        return what == 0 ? matter.common.lostBy(comes) : rightOf(comes);
    }

    public long turns(int v, int s) throws NoSuchElementException {
        if (!matter.hasSign(v, s)) {
            throw new NoSuchElementException();
        }
        replies.countTurns(matter, v, s);
        return replies.turned[0] + replies.turned[1] + replies.turned[2];
    }

    public long think(int v, int s, int t) throws NoSuchElementException {
        if (!matter.hasSign(v, s) || !matter.hasTruth(t)) {
            throw new NoSuchElementException();
        }
        replies.countTurns(matter, v, s);
        return replies.turned[t];
    }

    public int reply(int v, int s) {
        if (!matter.hasSign(v, s)) {
            return NONE;
        }
        replies.hearOthers(matter, matter.votes, v);
        return replies.best(v, s, matter.votes[v * SIDE + s]);
    }

    public int fit() {
        if (matter.isEmpty()) {
            return NONE;
        }
        return replies.isFit(matter, matter.votes) ? 1 : 0;
    }

    public int settle() {
        return matter.isEmpty() ? NONE : replies.settleVotes(matter);
    }

    public int settled(int v, int s) {
        return inTable(v, s) ? replies.settled[v * SIDE + s] : NONE;
    }

    public long settles(int what) {
        switch (what) {
            case 0:
                return replies.settledRight;
            case 1:
                return replies.settledLost;
            default:
                return NONE;
        }
    }

    public long inTurns() {
        long answer = NONE;
        if (matter.hasOrder(tape)) {
            turns.speakAll(matter, tape.bytes);
            answer = matter.common.lostBy(turns.comes);
        }
        tape.clear();
        return answer;
    }

    public long herd(int what) {
        if (turns.isSilent()) {
            return NONE;
        }
        switch (what) {
            case 0:
                return turns.herd;
            case 1:
                return turns.astray;
            case 2:
                return rightOf(turns.comes);
            default:
                return NONE;
        }
    }

    public int says() {
        int answer = turns.hasSigns(tape) ? turns.said(tape.bytes) : NONE;
        tape.clear();
        return answer;
    }

    public int cliff() {
        int answer = turns.hasSigns(tape) ? turns.cliffWith(tape.bytes) : NONE;
        tape.clear();
        return answer;
    }

    public int bestOrder() {
        if (matter.isEmpty() || matter.voters > FEW_VOTERS) {
            return NONE;
        }
        return trial.tryOrders(matter);
    }

    public long bestRule() throws NoSuchElementException {
        if (matter.isEmpty()) {
            throw new NoSuchElementException();
        }
        rows.voting(matter, matter.votes);
        rows.sumUpBest(comes);
        return matter.common.lostBy(comes);
    }

    public int bar(int t, int u) {
        if (!matter.hasTruth(t) || !matter.hasTruth(u) || t == u) {
            return NONE;
        }
        return rules.bestBar(matter, t, u);
    }

    public long barLost() {
        return rules.barLost;
    }

    public int silent() {
        int answer = NONE;
        long least = lost();
        for (int v = 0; v < matter.voters; v++) {
            long without = lostWithout(v, NONE);
            if (without < least) {
                least = without;
                answer = v;
            }
        }
        return answer;
    }

    public int helps(int v, int w) {
        if (!matter.hasVoter(v) || !matter.hasVoter(w) || v == w) {
            return NONE;
        }
        boolean beside = lostWithout(NONE, NONE) < lostWithout(v, NONE);
        boolean alone = lostWithout(w, NONE) < lostWithout(v, w);
        return beside && !alone ? 1 : 0;
    }

    public int believed(int v, int w, int part) {
        if (!matter.hasVoter(v) || !matter.hasVoter(w) || v == w) {
            return NONE;
        }
        if (part < 0 || part > Words.lastPart(matter.voter[v].signs)) {
            return NONE;
        }
        return words.areBelieved(matter, v, w, part) ? 1 : 0;
    }

    public long minutes(int v, int s) throws NoSuchElementException {
        if (!matter.hasSign(v, s) || !matter.hasVotes(tape)) {
            throw new NoSuchElementException();
        }
        long parts = 0;
        if (matter.votes[v * SIDE + s] == tape.bytes[v]) {
            rows.votingAs(matter, tape.bytes);
            rows.pin(v, s, NO_VOTE);
            rows.sumUp(comes);
            parts = sumOf(comes);
        }
        tape.clear();
        return parts;
    }

    public long shut(int d, int v, int s) throws NoSuchElementException {
        if (!matter.hasTruth(d) || !matter.hasSign(v, s)) {
            throw new NoSuchElementException();
        }
        rows.voting(matter, matter.votes);
        rows.pin(v, s, matter.votes[v * SIDE + s]);
        rows.sumUp(comes);
        return comes[d] + comes[SIDE + d] + comes[2 * SIDE + d];
    }

    public int fits() {
        if (matter.isEmpty() || matter.signsInAll() > Replies.MOST_PLACES) {
            return NONE;
        }
        return replies.countFits(matter);
    }

    public int fitAt(int v, int s) {
        return inTable(v, s) ? replies.bestFit[v * SIDE + s] : NONE;
    }

    public long weighed() {
        if (matter.isEmpty() || matter.voters > FEW_VOTERS) {
            return NONE;
        }
        return rules.weighAll(matter);
    }

    public int weighedAt(int i) {
        return i >= 0 && i < Rules.ANSWERS ? rules.weighed[i] : NONE;
    }

    public int guess() {
        int answer = NONE;
        if (matter.hasVotes(tape)) {
            rows.votingAs(matter, tape.bytes);
            answer = rows.likeliest();
        }
        tape.clear();
        return answer;
    }

    public long many(int n, int k) throws NoSuchElementException {
        if (n < 1 || n > 11 || n % 2 == 0 || k < 0 || k > WHOLE) {
            throw new NoSuchElementException();
        }
        long parts = 0;
        long choices = 1;
        for (int wrong = 0; wrong <= n / 2; wrong++) {
            parts += choices * power(k, n - wrong) * power(WHOLE - k, wrong);
            choices = choices * (n - wrong) / (wrong + 1);
        }
        return parts;
    }

    public int run(int seed, int cases) {
        if (matter.isEmpty() || cases < 1 || cases > Run.MOST_CASES) {
            return NONE;
        }
        return run.rightOf(matter, seed, cases);
    }

    /** What is LOST, if up to two VOTERS (NONE for nobody) have no votes. */
    private long lostWithout(int v, int w) {
        rows.voting(matter, matter.votes);
        if (matter.hasVoter(v)) {
            rows.silence(v);
        }
        if (matter.hasVoter(w)) {
            rows.silence(w);
        }
        rows.sumUp(comes);
        return matter.common.lostBy(comes);
    }

    /** A MATTER that neither counts now nor is that of the latest inTurns(). */
    private Matter spareMatter() {
        for (int i = 0; i < SIDE - 1; i++) {
            if (pool[i] != matter && pool[i] != turns.matter) {
                return pool[i];
            }
        }
        return pool[SIDE - 1];
    }

    private static boolean inTable(int v, int s) {
        return v >= 0 && v < MOST_VOTERS && s >= 0 && s < SIDE;
    }

    private static long power(int base, int times) {
        long product = 1;
        for (int i = 0; i < times; i++) {
            product *= base;
        }
        return product;
    }

    private static long rightOf(long[] comes) {
        return comes[0] + comes[SIDE + 1] + comes[2 * SIDE + 2];
    }

    private static long sumOf(long[] comes) {
        long sum = 0;
        for (int i = 0; i < SIDE * SIDE; i++) {
            sum += comes[i];
        }
        return sum;
    }

    private static void empty(long[] row) {
        for (int i = 0; i < row.length; i++) {
            row[i] = 0;
        }
    }

    /** The bytes that were fed and not used yet. */
    private static final class Tape {
        private static final int ROOM = 740;
        private static final int FED = 20;

        final int[] bytes;
        int length;

        Tape() {
            bytes = new int[ROOM];
        }

        int take(int a, int b, int c, int d, int e) {
            if (length > ROOM - FED) {
                return NONE;
            }
            add(a);
            add(b);
            add(c);
            add(d);
            add(e);
            return length;
        }

        private void add(int number) {
            for (int shift = 24; shift >= 0; shift -= 8) {
                if (length < ROOM) {
                    bytes[length] = number >>> shift & 255;
                    length++;
                }
            }
        }

        boolean cut(int n) {
            if (n < 0 || n > length) {
                return false;
            }
            length = n;
            return true;
        }

        void clear() {
            length = 0;
        }
    }

    /** What it costs one, if a TRUTH is so and another one (or it) is decided. */
    private static final class Losses {
        final int[] cost;

        Losses() {
            cost = new int[SIDE * SIDE];
        }

        void becomePlain() {
            for (int t = 0; t < SIDE; t++) {
                for (int d = 0; d < SIDE; d++) {
                    cost[t * SIDE + d] = t == d ? 0 : 1;
                }
            }
        }

        /** What deciding d loses; the PARTS of the TRUTHS stand in a row from a place on. */
        long lostAt(int d, long[] parts, int from) {
            long lost = 0;
            for (int t = 0; t < SIDE; t++) {
                lost += parts[from + t] * cost[t * SIDE + d];
            }
            return lost;
        }

        /** The TRUTH that, decided, loses least. */
        int leastOf(int truths, long[] parts, int from) {
            int best = 0;
            long least = lostAt(0, parts, from);
            for (int d = 1; d < truths; d++) {
                long lost = lostAt(d, parts, from);
                if (lost < least) {
                    least = lost;
                    best = d;
                }
            }
            return best;
        }

        /** What is lost by a table of PARTS, TRUTH so by TRUTH decided. */
        long lostBy(long[] comes) {
            long lost = 0;
            for (int i = 0; i < SIDE * SIDE; i++) {
                lost += comes[i] * cost[i];
            }
            return lost;
        }
    }

    /** One at the table: what is seen under each TRUTH, and how the vote hangs on it. */
    private static final class Voter {
        static final int HONEST = 0;
        static final int PLAIN = 1;
        static final int SHY = 2;
        static final int SET = 3;

        int signs;
        int weight;
        int way;
        int shyness;
        /** TRUTH by SIGN. */
        final int[] like;
        /** The losses told of one's own, NONE where none is. */
        final int[] told;
        final Losses losses;
        final int[] set;

        Voter() {
            like = new int[SIDE * SIDE];
            told = new int[SIDE * SIDE];
            losses = new Losses();
            set = new int[SIDE];
        }

        void begin(int howMany) {
            signs = howMany;
            weight = 1;
            way = HONEST;
            for (int i = 0; i < SIDE * SIDE; i++) {
                like[i] = 0;
                told[i] = NONE;
            }
        }

        void fillLosses(Losses common) {
            for (int i = 0; i < SIDE * SIDE; i++) {
                losses.cost[i] = told[i] == NONE ? common.cost[i] : told[i];
            }
        }

        /** The TRUTH under which a SIGN is likeliest. */
        int likeliest(int truths, int s) {
            int best = 0;
            for (int t = 1; t < truths; t++) {
                if (like[t * SIDE + s] > like[best * SIDE + s]) {
                    best = t;
                }
            }
            return best;
        }
    }

    /** What the table sits for: TRUTHS, VOTERS, losses and the rule of counting. */
    private static final class Matter {
        int truths;
        int voters;
        /** 0 is the rule most. */
        int need;
        int wanted;
        int otherwise;
        int chair;
        final int[] chance;
        final Losses common;
        final Voter[] voter;
        /** VOTER by SIGN. */
        final int[] votes;
        private final int[] tally;
        private final long[] with;

        Matter() {
            chair = NONE;
            chance = new int[SIDE];
            common = new Losses();
            voter = new Voter[MOST_VOTERS];
            for (int v = 0; v < MOST_VOTERS; v++) {
                voter[v] = new Voter();
            }
            votes = new int[MOST_VOTERS * SIDE];
            tally = new int[SIDE];
            with = new long[SIDE];
        }

        void begin() {
            truths = 0;
            voters = 0;
            need = 0;
            chair = NONE;
            common.becomePlain();
            for (int t = 0; t < SIDE; t++) {
                chance[t] = 0;
            }
        }

        /** Losses and votes can be known only when every LINE is read. */
        void finish() {
            for (int v = 0; v < voters; v++) {
                voter[v].fillLosses(common);
                for (int s = 0; s < SIDE; s++) {
                    votes[v * SIDE + s] = s < voter[v].signs ? voteOf(voter[v], s) : NO_VOTE;
                }
            }
        }

        boolean isEmpty() {
            return voters == 0;
        }

        boolean hasTruth(int t) {
            return t >= 0 && t < truths;
        }

        boolean hasVoter(int v) {
            return v >= 0 && v < voters;
        }

        boolean hasSign(int v, int s) {
            return hasVoter(v) && s >= 0 && s < voter[v].signs;
        }

        boolean hasSigns(Tape tape) {
            if (isEmpty() || tape.length != voters) {
                return false;
            }
            for (int v = 0; v < voters; v++) {
                if (!hasSign(v, tape.bytes[v])) {
                    return false;
                }
            }
            return true;
        }

        boolean hasVotes(Tape tape) {
            if (isEmpty() || tape.length != voters) {
                return false;
            }
            for (int v = 0; v < voters; v++) {
                if (!hasTruth(tape.bytes[v]) && tape.bytes[v] != NO_VOTE) {
                    return false;
                }
            }
            return true;
        }

        /** Whether the tape names every VOTER once. */
        boolean hasOrder(Tape tape) {
            if (isEmpty() || tape.length != voters) {
                return false;
            }
            int named = 0;
            for (int i = 0; i < voters; i++) {
                int v = tape.bytes[i];
                if (!hasVoter(v) || (named >> v & 1) == 1) {
                    return false;
                }
                named |= 1 << v;
            }
            return true;
        }

        int signsInAll() {
            int sum = 0;
            for (int v = 0; v < voters; v++) {
                sum += voter[v].signs;
            }
            return sum;
        }

        private int voteOf(Voter one, int s) {
            switch (one.way) {
                case Voter.PLAIN:
                    return one.likeliest(truths, s);
                case Voter.SHY:
                    return shyVote(one, s);
                case Voter.SET:
                    return one.set[s];
                default:
                    return honestVote(one, s);
            }
        }

        private int honestVote(Voter one, int s) {
            for (int t = 0; t < SIDE; t++) {
                with[t] = chance[t] * one.like[t * SIDE + s];
            }
            return one.losses.leastOf(truths, with, 0);
        }

        private int shyVote(Voter one, int s) {
            int best = honestVote(one, s);
            long sum = with[0] + with[1] + with[2];
            return with[best] * WHOLE >= one.shyness * sum ? best : NO_VOTE;
        }

        long partsOf(int t, int[] signs) {
            long parts = chance[t];
            for (int v = 0; v < voters; v++) {
                parts *= voter[v].like[t * SIDE + signs[v]];
            }
            return parts;
        }

        int knownBy(int[] signs) {
            for (int t = 0; t < SIDE; t++) {
                with[t] = partsOf(t, signs);
            }
            return common.leastOf(truths, with, 0);
        }

        int decidesWithSigns(int[] signs) {
            clearTally();
            for (int v = 0; v < voters; v++) {
                addVote(tally, v, votes[v * SIDE + signs[v]]);
            }
            int chairs = chair == NONE ? NO_VOTE : votes[chair * SIDE + signs[chair]];
            return decides(tally, chairs);
        }

        private void clearTally() {
            for (int t = 0; t < SIDE; t++) {
                tally[t] = 0;
            }
        }

        void addVote(int[] weights, int v, int vote) {
            if (vote >= 0 && vote < truths) {
                weights[vote] += voter[v].weight;
            }
        }

        /** What is DECIDED by the WEIGHTS of the votes for each TRUTH and the chair's vote. */
        int decides(int[] weights, int chairs) {
            if (need > 0) {
                return weights[wanted] >= need ? wanted : otherwise;
            }
            int best = 0;
            for (int t = 1; t < truths; t++) {
                if (weights[t] > weights[best]) {
                    best = t;
                }
            }
            boolean hasSaid = chairs >= 0 && chairs < truths;
            return hasSaid && weights[chairs] == weights[best] ? chairs : best;
        }
    }

    /** Reads a tape's TOKENS and LINES into a MATTER, up to the first FAULT. */
    private static final class Reader {
        private static final int MOST_BYTES = 700;
        private static final int MOST_LETTERS = 6;
        private static final int MOST_DIGITS = 2;
        private static final int MOST_LOSS = 50;
        private static final int MOST_NEED = 81;

        private static final int WORD = 0;
        private static final int NUMBER = 1;
        private static final int STOP = 2;
        private static final int END = 3;
        private static final int WRONG = 4;

        /** The sorts of NAMES. */
        private static final int NEW = 1;
        private static final int OF_TRUTH = 2;
        private static final int OF_VOTER = 4;

        private static final int TRUTH = 0;
        private static final int VOTER = 1;
        private static final int LOSS = 2;
        private static final int WAY = 3;
        private static final int WEIGHT = 4;
        private static final int RULE = 5;
        private static final int SEES = 6;
        private static final int HONEST = 7;
        private static final int PLAIN = 8;
        private static final int SHY = 9;
        private static final int SET = 10;
        private static final int NOBODY = 11;
        private static final int MOST = 12;
        private static final int CHAIR = 13;
        private static final int NEED = 14;
        private static final int ELSE = 15;
        /** The keywords as the numbers that their letters' bytes make; those that open a LINE first. */
        private static final long[] KEYWORDS = {
            0x7472757468L, // truth
            0x766f746572L, // voter
            0x6c6f7373L, // loss
            0x776179L, // way
            0x776569676874L, // weight
            0x72756c65L, // rule
            0x73656573L, // sees
            0x686f6e657374L, // honest
            0x706c61696eL, // plain
            0x736879L, // shy
            0x736574L, // set
            0x6e6f6e65L, // none
            0x6d6f7374L, // most
            0x6368616972L, // chair
            0x6e656564L, // need
            0x656c7365L, // else
        };

        int fault;
        private final Tape tape;
        private Matter matter;
        private boolean behindTruths;
        /** The TOKEN now: where it begins, where the next may, and what it is. */
        private int place;
        private int behind;
        private int kind;
        private long word;
        private int keyword;
        private int number;
        /** What the NAME now stands for; NONE if for no TRUTH, no VOTER. */
        private int truth;
        private int voter;
        private final long[] truthNames;
        private final long[] voterNames;

        Reader(Tape from, Matter first) {
            tape = from;
            matter = first;
            truthNames = new long[SIDE];
            voterNames = new long[MOST_VOTERS];
        }

        /** How many LINES there are; -1 less the place of the FAULT. */
        int read(Matter into) {
            matter = into;
            matter.begin();
            behindTruths = false;
            behind = 0;
            fault = 0;
            int lines = 0;
            next();
            while (lines <= MOST_BYTES && kind != END && readLine()) {
                lines++;
                next();
            }
            if (fault == 0 && (matter.isEmpty() || tape.length > MOST_BYTES)) {
                fail(1);
            }
            return fault == 0 ? lines : -1 - place;
        }

        private boolean fail(int what) {
            fault = what;
            return false;
        }

        private void next() {
            int at = behind;
            while (at < tape.length && isBlank(tape.bytes[at])) {
                at++;
            }
            keyword = NONE;
            if (at >= tape.length || at >= MOST_BYTES) {
                kind = END;
                place = Math.min(tape.length, MOST_BYTES);
                behind = at;
            } else if (tape.bytes[at] == ';') {
                kind = STOP;
                place = at;
                behind = at + 1;
            } else {
                place = at;
                nextRun();
            }
        }

        /** A run of small letters and digits is one TOKEN, or none if they are mixed or too many. */
        private void nextRun() {
            int letters = 0;
            int digits = 0;
            word = 0;
            number = 0;
            for (behind = place; behind < tape.length; behind++) {
                int sign = tape.bytes[behind];
                if (sign >= '0' && sign <= '9') {
                    digits++;
                    number = number * 10 + sign - '0';
                } else if (sign >= 'a' && sign <= 'z') {
                    letters++;
                    word = word << 8 | sign;
                } else {
                    break;
                }
            }
            kind = WRONG;
            if (digits == 0 && letters >= 1 && letters <= MOST_LETTERS) {
                kind = WORD;
                for (int i = 0; i < KEYWORDS.length; i++) {
                    keyword = KEYWORDS[i] == word ? i : keyword;
                }
            } else if (letters == 0 && digits >= 1 && digits <= MOST_DIGITS) {
                kind = NUMBER;
            }
        }

        private static boolean isBlank(int sign) {
            return sign == 32 || sign == 10;
        }

        /** From the first WORD of a LINE through its stop. */
        private boolean readLine() {
            if (keyword < 0 || keyword > RULE) {
                return fail(1);
            }
            if (keyword == TRUTH) {
                return readTruth();
            }
            if (!behindTruths && !truthsStand()) {
                return fail(4);
            }
            behindTruths = true;
            switch (keyword) {
                case VOTER:
                    return readVoter();
                case LOSS:
                    return readLoss();
                case WAY:
                    return readWay();
                case WEIGHT:
                    return readWeight();
                default:
                    next();
                    return keyword == NEED ? readNeed() : readMost();
            }
        }

        private boolean truthsStand() {
            int sum = 0;
            for (int t = 0; t < matter.truths; t++) {
                sum += matter.chance[t];
            }
            return matter.truths >= 2 && sum == WHOLE;
        }

        private boolean readTruth() {
            if (behindTruths || matter.truths >= SIDE) {
                return fail(4);
            }
            if (!someName(NEW)) {
                return false;
            }
            truthNames[matter.truths] = word;
            if (!someNumber(1, 19)) {
                return false;
            }
            matter.chance[matter.truths] = number;
            matter.truths++;
            return stop();
        }

        private boolean readVoter() {
            if (matter.voters >= MOST_VOTERS) {
                return fail(4);
            }
            if (!someName(NEW)) {
                return false;
            }
            voterNames[matter.voters] = word;
            if (!someKeyword(SEES) || !someNumber(2, SIDE)) {
                return false;
            }
            Voter one = matter.voter[matter.voters];
            one.begin(number);
            for (int t = 0; t < matter.truths; t++) {
                int sum = 0;
                for (int s = 0; s < one.signs; s++) {
                    if (!someNumber(0, WHOLE)) {
                        return false;
                    }
                    one.like[t * SIDE + s] = number;
                    sum += number;
                }
                if (sum != WHOLE) {
                    return fail(2);
                }
            }
            matter.voters++;
            return stop();
        }

        private boolean readLoss() {
            if (!someName(OF_TRUTH | OF_VOTER)) {
                return false;
            }
            int[] cost = matter.common.cost;
            if (voter != NONE) {
                cost = matter.voter[voter].told;
                if (!someName(OF_TRUTH)) {
                    return false;
                }
            }
            int so = truth;
            if (!someName(OF_TRUTH)) {
                return false;
            }
            int decided = truth;
            if (!someNumber(0, MOST_LOSS)) {
                return false;
            }
            cost[so * SIDE + decided] = number;
            return stop();
        }

        private boolean readWay() {
            if (!someName(OF_VOTER)) {
                return false;
            }
            Voter one = matter.voter[voter];
            next();
            switch (keyword) {
                case HONEST:
                    one.way = Voter.HONEST;
                    break;
                case PLAIN:
                    one.way = Voter.PLAIN;
                    break;
                case SHY:
                    one.way = Voter.SHY;
                    if (!someNumber(1, WHOLE)) {
                        return false;
                    }
                    one.shyness = number;
                    break;
                case SET:
                    one.way = Voter.SET;
                    if (!readSet(one)) {
                        return false;
                    }
                    break;
                default:
                    return fail(1);
            }
            return stop();
        }

        private boolean readSet(Voter one) {
            for (int s = 0; s < one.signs; s++) {
                next();
                if (keyword == NOBODY) {
                    one.set[s] = NO_VOTE;
                } else if (isName(OF_TRUTH)) {
                    one.set[s] = truth;
                } else {
                    return false;
                }
            }
            return true;
        }

        private boolean readWeight() {
            if (!someName(OF_VOTER) || !someNumber(0, 9)) {
                return false;
            }
            matter.voter[voter].weight = number;
            return stop();
        }

        private boolean readMost() {
            if (keyword != MOST) {
                return fail(1);
            }
            matter.need = 0;
            matter.chair = NONE;
            next();
            if (keyword == CHAIR) {
                if (!someName(OF_VOTER)) {
                    return false;
                }
                matter.chair = voter;
                next();
            }
            return kind == STOP || fail(1);
        }

        private boolean readNeed() {
            if (!someNumber(1, MOST_NEED)) {
                return false;
            }
            matter.need = number;
            if (!someName(OF_TRUTH)) {
                return false;
            }
            matter.wanted = truth;
            if (!someKeyword(ELSE) || !someName(OF_TRUTH)) {
                return false;
            }
            matter.otherwise = truth;
            return stop();
        }

        private boolean stop() {
            next();
            return kind == STOP || fail(1);
        }

        private boolean someKeyword(int which) {
            next();
            return keyword == which || fail(1);
        }

        private boolean someNumber(int least, int most) {
            next();
            if (kind != NUMBER) {
                return fail(1);
            }
            return number >= least && number <= most || fail(2);
        }

        private boolean someName(int sorts) {
            next();
            return isName(sorts);
        }

        /** Whether the TOKEN is a NAME of a sort that can come here; what it stands for is looked up. */
        private boolean isName(int sorts) {
            if (kind != WORD || keyword != NONE) {
                return fail(1);
            }
            int sort = NEW;
            truth = NONE;
            for (int t = 0; t < matter.truths; t++) {
                if (truthNames[t] == word) {
                    truth = t;
                    sort = OF_TRUTH;
                }
            }
            voter = NONE;
            for (int v = 0; v < matter.voters; v++) {
                if (voterNames[v] == word) {
                    voter = v;
                    sort = OF_VOTER;
                }
            }
            return (sorts & sort) != 0 || fail(3);
        }
    }

    /**
     * All rows of what the VOTERS may vote (or see), one after another, with the PARTS of each.
     * SIGNS with the same vote are one choice, so that there are few rows.
     */
    private static final class Rows {
        private Matter matter;
        /** How many choices each VOTER has, and which one is taken in the row now. */
        private final int[] choices;
        private final int[] taken;
        /** VOTER by choice: its vote (or SIGN). */
        private final int[] code;
        /** VOTER by choice by TRUTH: how likely it is. */
        private final int[] like;
        /** PARTS by TRUTH and WEIGHTS of votes by TRUTH, of the VOTERS ahead of each and of all. */
        private final long[] parts;
        private final int[] weights;
        private final int[] row;
        private final int[] tally;

        Rows(Matter first) {
            matter = first;
            choices = new int[MOST_VOTERS];
            taken = new int[MOST_VOTERS];
            code = new int[MOST_VOTERS * SIDE];
            like = new int[MOST_VOTERS * SIDE * SIDE];
            parts = new long[(MOST_VOTERS + 1) * SIDE];
            weights = new int[(MOST_VOTERS + 1) * SIDE];
            row = new int[MOST_VOTERS];
            tally = new int[SIDE];
        }

        /** Rows of votes. */
        void voting(Matter of, int[] votes) {
            matter = of;
            for (int v = 0; v < matter.voters; v++) {
                choices[v] = 0;
                for (int s = 0; s < matter.voter[v].signs; s++) {
                    addChoice(v, s, votes[v * SIDE + s]);
                }
            }
        }

        /** Rows of SIGNS. */
        void seeing(Matter of) {
            matter = of;
            for (int v = 0; v < matter.voters; v++) {
                choices[v] = 0;
                for (int s = 0; s < matter.voter[v].signs; s++) {
                    addChoice(v, s, s);
                }
            }
        }

        /** The one row in which all vote as told, however likely that is. */
        void votingAs(Matter of, int[] told) {
            matter = of;
            for (int v = 0; v < matter.voters; v++) {
                choices[v] = 0;
                openChoice(v, told[v], 0);
                for (int s = 0; s < matter.voter[v].signs; s++) {
                    if (matter.votes[v * SIDE + s] == told[v]) {
                        addChoice(v, s, told[v]);
                    }
                }
            }
        }

        private void addChoice(int v, int s, int vote) {
            int choice = 0;
            while (choice < choices[v] && code[v * SIDE + choice] != vote) {
                choice++;
            }
            if (choice == choices[v]) {
                openChoice(v, vote, 0);
            }
            for (int t = 0; t < SIDE; t++) {
                like[(v * SIDE + choice) * SIDE + t] += matter.voter[v].like[t * SIDE + s];
            }
        }

        private void openChoice(int v, int vote, int likely) {
            if (choices[v] < SIDE) {
                int choice = v * SIDE + choices[v];
                code[choice] = vote;
                for (int t = 0; t < SIDE; t++) {
                    like[choice * SIDE + t] = likely;
                }
                choices[v]++;
            }
        }

        /** The VOTER has no vote in any row. */
        void silence(int v) {
            choices[v] = 0;
            openChoice(v, NO_VOTE, WHOLE);
        }

        /** The VOTER has no vote in any row, and no SIGN: PARTS are those of the others alone. */
        void leaveOut(int v) {
            choices[v] = 0;
            openChoice(v, NO_VOTE, 1);
        }

        /** The VOTER has one SIGN in all rows, and one vote. */
        void pin(int v, int s, int vote) {
            choices[v] = 0;
            addChoice(v, s, vote);
        }

        /** How many rows there are, the first one being the row now. */
        int first() {
            int count = 1;
            for (int v = 0; v < matter.voters; v++) {
                taken[v] = 0;
                count *= choices[v];
            }
            for (int t = 0; t < SIDE; t++) {
                parts[t] = matter.chance[t];
                weights[t] = 0;
            }
            fillFrom(0);
            return count;
        }

        /** The next row; behind the last one the first again. */
        void step() {
            int v = matter.voters - 1;
            while (v > 0 && taken[v] + 1 >= choices[v]) {
                taken[v] = 0;
                v--;
            }
            taken[v] = taken[v] + 1 < choices[v] ? taken[v] + 1 : 0;
            fillFrom(v);
        }

        private void fillFrom(int from) {
            for (int v = from; v < matter.voters; v++) {
                int choice = v * SIDE + taken[v];
                row[v] = code[choice];
                for (int t = 0; t < SIDE; t++) {
                    parts[(v + 1) * SIDE + t] = parts[v * SIDE + t] * like[choice * SIDE + t];
                    int own = row[v] == t ? matter.voter[v].weight : 0;
                    weights[(v + 1) * SIDE + t] = weights[v * SIDE + t] + own;
                }
            }
        }

        long partsNow(int t) {
            return parts[matter.voters * SIDE + t];
        }

        int weightNow(int t) {
            return weights[matter.voters * SIDE + t];
        }

        /** What is LOST in the row now by the COMMON LOSSES, if d is decided. */
        long lostNow(int d) {
            return matter.common.lostAt(d, parts, matter.voters * SIDE);
        }

        /** The VOTERS who vote for a TRUTH in the row now, by bits. */
        int votersFor(int t) {
            int mask = 0;
            for (int v = 0; v < matter.voters; v++) {
                if (row[v] == t) {
                    mask |= 1 << v;
                }
            }
            return mask;
        }

        private int decidesNow() {
            takeTally();
            return matter.decides(tally, matter.chair == NONE ? NO_VOTE : row[matter.chair]);
        }

        /** What is DECIDED, if a VOTER who has no vote in the row now has one. */
        int decidesIf(int v, int vote) {
            takeTally();
            matter.addVote(tally, v, vote);
            int chairs = vote;
            if (matter.chair != v) {
                chairs = matter.chair == NONE ? NO_VOTE : row[matter.chair];
            }
            return matter.decides(tally, chairs);
        }

        private void takeTally() {
            for (int t = 0; t < SIDE; t++) {
                tally[t] = weights[matter.voters * SIDE + t];
            }
        }

        /** PARTS by TRUTH so and TRUTH DECIDED. */
        void sumUp(long[] comes) {
            empty(comes);
            int count = first();
            for (int i = 0; i < count; i++) {
                addRow(comes, decidesNow());
                step();
            }
        }

        /** PARTS by TRUTH so and TRUTH that loses least in each row by the COMMON LOSSES. */
        void sumUpBest(long[] comes) {
            empty(comes);
            int count = first();
            for (int i = 0; i < count; i++) {
                addRow(comes, matter.common.leastOf(matter.truths, parts, matter.voters * SIDE));
                step();
            }
        }

        private void addRow(long[] comes, int d) {
            for (int t = 0; t < SIDE; t++) {
                comes[t * SIDE + d] += partsNow(t);
            }
        }

        /** The TRUTH with the most PARTS in the first row; NONE, if it has none. */
        int likeliest() {
            first();
            int best = NONE;
            long most = 0;
            for (int t = 0; t < matter.truths; t++) {
                if (partsNow(t) > most) {
                    most = partsNow(t);
                    best = t;
                }
            }
            return best;
        }
    }

    /** Ways that are best against one another. */
    private static final class Replies {
        static final int MOST_PLACES = 6;
        private static final int MOST_ROUNDS = 50;
        private static final int MOST_TABLES = 4096;

        private final Rows rows;
        private Matter matter;
        /** Vote (none the last) by TRUTH: what the VOTER loses by it over the others' rows. */
        private final long[] losing;
        final long[] turned;
        private final long[] comes;
        private final int[] trial;
        /** VOTER by SIGN, NONE where there is none such. */
        final int[] settled;
        long settledRight;
        long settledLost;
        final int[] bestFit;
        /** Where each place of a table of votes stands among VOTERS by SIGNS, and its vote now. */
        private final int[] place;
        private final int[] digit;
        private int places;
        /** SIGN by SIGN the votes of the last VOTER that are REPLIES, by bits. */
        private final int[] noted;

        Replies(Rows over, Matter first) {
            rows = over;
            matter = first;
            losing = new long[(SIDE + 1) * SIDE];
            turned = new long[SIDE];
            comes = new long[SIDE * SIDE];
            trial = new int[MOST_VOTERS * SIDE];
            settled = new int[MOST_VOTERS * SIDE];
            bestFit = new int[MOST_VOTERS * SIDE];
            for (int i = 0; i < MOST_VOTERS * SIDE; i++) {
                settled[i] = NONE;
                bestFit[i] = NONE;
            }
            settledRight = NONE;
            settledLost = NONE;
            place = new int[MOST_PLACES];
            digit = new int[MOST_PLACES];
            noted = new int[SIDE];
        }

        /** PARTS by TRUTH of the CASES in which the VOTER's voice TURNS it. */
        void countTurns(Matter of, int v, int s) {
            matter = of;
            empty(turned);
            rows.voting(matter, matter.votes);
            rows.pin(v, s, NO_VOTE);
            int count = rows.first();
            for (int i = 0; i < count; i++) {
                if (turnsNow(v)) {
                    for (int t = 0; t < SIDE; t++) {
                        turned[t] += rows.partsNow(t);
                    }
                }
                rows.step();
            }
        }

        private boolean turnsNow(int v) {
            int silently = rows.decidesIf(v, NO_VOTE);
            for (int t = 0; t < matter.truths; t++) {
                if (rows.decidesIf(v, t) != silently) {
                    return true;
                }
            }
            return false;
        }

        /** Ahead of best(): what each vote of a VOTER loses, the others voting as they do. */
        void hearOthers(Matter of, int[] votes, int v) {
            matter = of;
            empty(losing);
            rows.voting(matter, votes);
            rows.leaveOut(v);
            int count = rows.first();
            for (int i = 0; i < count; i++) {
                for (int x = 0; x <= matter.truths; x++) {
                    addLosing(v, x);
                }
                rows.step();
            }
        }

        private void addLosing(int v, int x) {
            int d = rows.decidesIf(v, voteAt(x));
            int[] cost = matter.voter[v].losses.cost;
            for (int t = 0; t < SIDE; t++) {
                losing[x * SIDE + t] += rows.partsNow(t) * cost[t * SIDE + d];
            }
        }

        /** Votes are tried in order, none behind all TRUTHS. */
        private int voteAt(int x) {
            return x < matter.truths ? x : NO_VOTE;
        }

        private long lostBy(int v, int s, int x) {
            int[] like = matter.voter[v].like;
            long lost = 0;
            for (int t = 0; t < SIDE; t++) {
                lost += losing[x * SIDE + t] * like[t * SIDE + s];
            }
            return lost;
        }

        /** The REPLY with a SIGN of the VOTER of hearOthers(). */
        int best(int v, int s, int present) {
            int now = matter.hasTruth(present) ? present : matter.truths;
            int best = now;
            long least = lostBy(v, s, now);
            for (int x = 0; x <= matter.truths; x++) {
                long lost = lostBy(v, s, x);
                if (lost < least) {
                    least = lost;
                    best = x;
                }
            }
            return voteAt(best);
        }

        boolean isFit(Matter of, int[] votes) {
            for (int v = 0; v < of.voters; v++) {
                hearOthers(of, votes, v);
                for (int s = 0; s < of.voter[v].signs; s++) {
                    int present = votes[v * SIDE + s];
                    if (best(v, s, present) != present) {
                        return false;
                    }
                }
            }
            return true;
        }

        /** After how many rounds the votes are SETTLED. */
        int settleVotes(Matter of) {
            for (int i = 0; i < MOST_VOTERS * SIDE; i++) {
                trial[i] = of.votes[i];
            }
            for (int round = 1; round <= MOST_ROUNDS; round++) {
                if (!changesInRound(of)) {
                    keepVotes(of, settled);
                    countTrial(of);
                    settledRight = rightOf(comes);
                    settledLost = of.common.lostBy(comes);
                    return round;
                }
            }
            return NONE;
        }

        private boolean changesInRound(Matter of) {
            boolean changes = false;
            for (int v = 0; v < of.voters; v++) {
                hearOthers(of, trial, v);
                for (int s = 0; s < of.voter[v].signs; s++) {
                    int present = trial[v * SIDE + s];
                    trial[v * SIDE + s] = best(v, s, present);
                    changes |= trial[v * SIDE + s] != present;
                }
            }
            return changes;
        }

        private void keepVotes(Matter of, int[] into) {
            for (int v = 0; v < MOST_VOTERS; v++) {
                for (int s = 0; s < SIDE; s++) {
                    into[v * SIDE + s] = of.hasSign(v, s) ? trial[v * SIDE + s] : NONE;
                }
            }
        }

        private void countTrial(Matter of) {
            rows.voting(of, trial);
            rows.sumUp(comes);
        }

        /** How many tables of votes are FIT; the best of them is kept. */
        int countFits(Matter of) {
            matter = of;
            int tables = layPlaces();
            int fits = 0;
            long least = 0;
            boolean anew = true;
            for (int i = 0; i < tables; i++) {
                // The last VOTER's REPLIES hang on the others' votes alone, which seldom change here.
                if (anew) {
                    noteReplies(matter.voters - 1);
                }
                if (areNoted(matter.voters - 1) && isFit(matter, trial)) {
                    countTrial(matter);
                    long lost = matter.common.lostBy(comes);
                    if (fits == 0 || lost < least) {
                        least = lost;
                        keepVotes(matter, bestFit);
                    }
                    fits++;
                }
                anew = nextTable();
            }
            return fits;
        }

        /** How many tables there are, the first one being the trial. */
        private int layPlaces() {
            places = 0;
            int tables = 1;
            for (int v = 0; v < matter.voters; v++) {
                for (int s = 0; s < matter.voter[v].signs && places < MOST_PLACES; s++) {
                    place[places] = v * SIDE + s;
                    digit[places] = 0;
                    trial[v * SIDE + s] = 0;
                    places++;
                    tables *= matter.truths + 1;
                }
            }
            return Math.min(tables, MOST_TABLES);
        }

        /** The next table of votes as the trial; whether it changes any but the last VOTER's. */
        private boolean nextTable() {
            boolean carries = true;
            boolean anew = false;
            for (int p = places - 1; p >= 0 && carries; p--) {
                carries = digit[p] >= matter.truths;
                digit[p] = carries ? 0 : digit[p] + 1;
                trial[place[p]] = voteAt(digit[p]);
                anew = place[p] < (matter.voters - 1) * SIDE;
            }
            return anew;
        }

        private void noteReplies(int v) {
            hearOthers(matter, trial, v);
            for (int s = 0; s < matter.voter[v].signs; s++) {
                noted[s] = 0;
                for (int x = 0; x <= matter.truths; x++) {
                    if (best(v, s, voteAt(x)) == voteAt(x)) {
                        noted[s] |= 1 << x;
                    }
                }
            }
        }

        private boolean areNoted(int v) {
            for (int s = 0; s < matter.voter[v].signs; s++) {
                int vote = trial[v * SIDE + s];
                int x = matter.hasTruth(vote) ? vote : matter.truths;
                if ((noted[s] >> x & 1) == 0) {
                    return false;
                }
            }
            return true;
        }
    }

    /** Speaking in turns and following one another. */
    private static final class Turns {
        /** Those of FEW_VOTERS. */
        private static final int MOST_ORDERS = 120;

        Matter matter;
        private final int[] order;
        /** Turn by SIGN: what one says. */
        private final int[] say;
        /** Turn by TRUTH: PARTS of the CASES left ahead of each turn and behind the last one. */
        private final long[] left;
        private final long[] with;
        final long[] comes;
        long herd;
        long astray;

        Turns(Matter first) {
            matter = first;
            order = new int[MOST_VOTERS];
            say = new int[MOST_VOTERS * SIDE];
            left = new long[(MOST_VOTERS + 1) * SIDE];
            with = new long[SIDE];
            comes = new long[SIDE * SIDE];
        }

        /** Whether nobody has spoken yet. */
        boolean isSilent() {
            return matter.isEmpty();
        }

        boolean hasSigns(Tape tape) {
            return matter.hasSigns(tape);
        }

        /** Lets all speak in an order, over all CASES. */
        void speakAll(Matter of, int[] ordered) {
            matter = of;
            for (int i = 0; i < matter.voters; i++) {
                order[i] = ordered[i];
            }
            speakInOrder();
        }

        private void speakInOrder() {
            empty(comes);
            herd = 0;
            astray = 0;
            openTalk();
            speak(0, NONE, 0);
        }

        private void openTalk() {
            for (int t = 0; t < SIDE; t++) {
                left[t] = matter.chance[t];
            }
        }

        /** All that may be said from a turn on; cliff is the first turn from which on all FOLLOWED. */
        private void speak(int turn, int cliff, int said) {
            if (turn >= matter.voters || turn >= MOST_VOTERS) {
                endTalk(cliff, said);
                return;
            }
            ponder(turn);
            int follows = cliffAt(turn, cliff);
            for (int d = 0; d < matter.truths; d++) {
                if (hear(turn, d)) {
                    speak(turn + 1, follows, d);
                }
            }
        }

        private void endTalk(int cliff, int d) {
            boolean herding = cliff != NONE && cliff < matter.voters - 1;
            for (int t = 0; t < SIDE; t++) {
                long parts = left[matter.voters * SIDE + t];
                comes[t * SIDE + d] += parts;
                if (herding) {
                    herd += parts;
                    astray += t == d ? 0 : parts;
                }
            }
        }

        /** What is said in a turn with each SIGN, after what was said ahead of it. */
        private void ponder(int turn) {
            Voter one = matter.voter[order[turn]];
            for (int s = 0; s < one.signs; s++) {
                for (int t = 0; t < SIDE; t++) {
                    with[t] = left[turn * SIDE + t] * one.like[t * SIDE + s];
                }
                say[turn * SIDE + s] = one.losses.leastOf(matter.truths, with, 0);
            }
        }

        private int cliffAt(int turn, int cliff) {
            if (!follows(turn)) {
                return NONE;
            }
            return cliff == NONE ? turn : cliff;
        }

        private boolean follows(int turn) {
            Voter one = matter.voter[order[turn]];
            int heard = NONE;
            for (int s = 0; s < one.signs; s++) {
                if (hasCase(turn, one, s)) {
                    int said = say[turn * SIDE + s];
                    if (heard != NONE && heard != said) {
                        return false;
                    }
                    heard = said;
                }
            }
            return true;
        }

        private boolean hasCase(int turn, Voter one, int s) {
            for (int t = 0; t < SIDE; t++) {
                if (left[turn * SIDE + t] > 0 && one.like[t * SIDE + s] > 0) {
                    return true;
                }
            }
            return false;
        }

        /** Leaves the CASES in which d is said in a turn; whether there are any. */
        private boolean hear(int turn, int d) {
            Voter one = matter.voter[order[turn]];
            boolean any = false;
            for (int t = 0; t < SIDE; t++) {
                long likely = 0;
                for (int s = 0; s < one.signs; s++) {
                    likely += say[turn * SIDE + s] == d ? one.like[t * SIDE + s] : 0;
                }
                left[(turn + 1) * SIDE + t] = left[turn * SIDE + t] * likely;
                any |= left[(turn + 1) * SIDE + t] > 0;
            }
            return any;
        }

        /** What all say with their SIGNS, by ten each. */
        int said(int[] signs) {
            int all = 0;
            openTalk();
            for (int turn = 0; turn < matter.voters; turn++) {
                all = all * 10 + sayWith(turn, signs);
            }
            return all;
        }

        int cliffWith(int[] signs) {
            int cliff = NONE;
            openTalk();
            for (int turn = 0; turn < matter.voters; turn++) {
                sayWith(turn, signs);
                cliff = cliffAt(turn, cliff);
            }
            return cliff;
        }

        private int sayWith(int turn, int[] signs) {
            ponder(turn);
            int d = say[turn * SIDE + signs[order[turn]]];
            hear(turn, d);
            return d;
        }

        /** The BEST ORDER, by ten each. */
        int tryOrders(Matter of) {
            matter = of;
            for (int i = 0; i < matter.voters; i++) {
                order[i] = i;
            }
            int best = 0;
            long least = MORE_THAN_ANY;
            boolean more = true;
            for (int i = 0; i < MOST_ORDERS && more; i++) {
                speakInOrder();
                long lost = matter.common.lostBy(comes);
                if (lost < least) {
                    least = lost;
                    best = orderByTen();
                }
                more = nextOrder();
            }
            return best;
        }

        private int orderByTen() {
            int all = 0;
            for (int i = 0; i < matter.voters; i++) {
                all = all * 10 + order[i];
            }
            return all;
        }

        /** The next order, turn by turn; false behind the last one. */
        private boolean nextOrder() {
            int turn = matter.voters - 2;
            while (turn >= 0 && order[turn] > order[turn + 1]) {
                turn--;
            }
            if (turn < 0) {
                return false;
            }
            int other = matter.voters - 1;
            while (other > turn && order[other] < order[turn]) {
                other--;
            }
            swap(turn, other);
            int last = matter.voters - 1;
            for (int i = turn + 1; i < last; i++) {
                swap(i, last);
                last--;
            }
            return true;
        }

        private void swap(int i, int j) {
            int kept = order[i];
            order[i] = order[j];
            order[j] = kept;
        }
    }

    /** Rules of the sort 'need k t else u', tried one after another. */
    private static final class Rules {
        static final int ANSWERS = 8;
        private static final int MOST_NEED = 82;
        /** Seven VOTERS with WEIGHTS of nine, and 0. */
        private static final int TALLIES = 64;
        private static final int MASKS = 32;
        /** Five VOTERS with WEIGHTS of three, and 0. */
        private static final int SUMS = 16;

        private final Rows rows;
        /** By WEIGHTS for the TRUTH: what is lost, if it is decided, and if the other one is. */
        private final long[] taking;
        private final long[] leaving;
        long barLost;
        /** TRUTH by VOTERS who vote for it by TRUTH decided: what is lost. */
        private final long[] byVoters;
        private final int[] sums;
        /** TRUTH by WEIGHTS for it or more by TRUTH decided: what is lost. */
        private final long[] above;
        private final int[] weights;
        private long least;
        final int[] weighed;

        Rules(Rows over) {
            rows = over;
            taking = new long[TALLIES];
            leaving = new long[TALLIES];
            barLost = NONE;
            byVoters = new long[SIDE * MASKS * SIDE];
            sums = new int[MASKS];
            above = new long[SIDE * SUMS * SIDE];
            weights = new int[FEW_VOTERS];
            weighed = new int[ANSWERS];
            for (int i = 0; i < ANSWERS; i++) {
                weighed[i] = NONE;
            }
        }

        int bestBar(Matter matter, int t, int u) {
            sortByWeights(matter, t, u);
            long lost = leaving[0];
            for (int i = 1; i < TALLIES; i++) {
                lost += taking[i];
            }
            int best = 1;
            barLost = lost;
            for (int k = 2; k <= MOST_NEED; k++) {
                if (k <= TALLIES) {
                    lost += leaving[k - 1] - taking[k - 1];
                }
                if (lost < barLost) {
                    barLost = lost;
                    best = k;
                }
            }
            return best;
        }

        private void sortByWeights(Matter matter, int t, int u) {
            empty(taking);
            empty(leaving);
            rows.voting(matter, matter.votes);
            int count = rows.first();
            for (int i = 0; i < count; i++) {
                int weight = rows.weightNow(t);
                if (weight >= 0 && weight < TALLIES) {
                    taking[weight] += rows.lostNow(t);
                    leaving[weight] += rows.lostNow(u);
                }
                rows.step();
            }
        }

        /** The least LOST of all WEIGHTS and needs; the first such ones are kept. */
        long weighAll(Matter matter) {
            sortByVoters(matter);
            least = MORE_THAN_ANY;
            int tables = 1 << 2 * matter.voters;
            for (int i = 0; i < tables; i++) {
                takeWeights(i, matter.voters);
                addWeights(matter);
                tryNeeds(matter);
            }
            return least;
        }

        private void sortByVoters(Matter matter) {
            empty(byVoters);
            rows.voting(matter, matter.votes);
            int count = rows.first();
            for (int i = 0; i < count; i++) {
                for (int t = 0; t < matter.truths; t++) {
                    int from = (t * MASKS + (rows.votersFor(t) & MASKS - 1)) * SIDE;
                    for (int d = 0; d < matter.truths; d++) {
                        byVoters[from + d] += rows.lostNow(d);
                    }
                }
                rows.step();
            }
        }

        /** The WEIGHTS of a table by its number, the first VOTER's the slowest to change. */
        private void takeWeights(int table, int voters) {
            for (int v = 0; v < voters && v < FEW_VOTERS; v++) {
                weights[v] = table >> 2 * (voters - 1 - v) & 3;
                for (int mask = 1 << v; mask < 2 << v; mask++) {
                    sums[mask] = sums[mask - (1 << v)] + weights[v];
                }
            }
        }

        private void addWeights(Matter matter) {
            empty(above);
            int masks = 1 << matter.voters;
            for (int t = 0; t < matter.truths; t++) {
                for (int mask = 0; mask < masks && mask < MASKS; mask++) {
                    int from = (t * MASKS + mask) * SIDE;
                    int to = (t * SUMS + sums[mask]) * SIDE;
                    for (int d = 0; d < SIDE; d++) {
                        above[to + d] += byVoters[from + d];
                    }
                }
                for (int i = SUMS * SIDE - SIDE - 1; i >= 0; i--) {
                    above[t * SUMS * SIDE + i] += above[t * SUMS * SIDE + i + SIDE];
                }
            }
        }

        private void tryNeeds(Matter matter) {
            for (int k = 1; k < SUMS; k++) {
                for (int t = 0; t < matter.truths; t++) {
                    for (int u = 0; u < matter.truths; u++) {
                        if (t != u && lostByNeed(k, t, u) < least) {
                            least = lostByNeed(k, t, u);
                            keepNeed(matter.voters, k, t, u);
                        }
                    }
                }
            }
        }

        private long lostByNeed(int k, int t, int u) {
            int all = t * SUMS * SIDE;
            int reached = all + k * SIDE;
            return above[reached + t] + above[all + u] - above[reached + u];
        }

        private void keepNeed(int voters, int k, int t, int u) {
            for (int v = 0; v < FEW_VOTERS; v++) {
                weighed[v] = v < voters ? weights[v] : NONE;
            }
            weighed[5] = k;
            weighed[6] = t;
            weighed[7] = u;
        }
    }

    /** What one may tell another in WORDS, and whether it is believed. */
    private static final class Words {
        /** Part by SIGN: the number of its WORD. */
        private static final int[] WORD_OF = {
            0, 0, 0,
            0, 0, 1,
            0, 1, 0,
            0, 1, 1,
            0, 1, 2,
        };

        private Matter matter;
        private Voter speaker;
        private Voter hearer;
        /** Where the part stands in WORD_OF. */
        private int part;
        private final long[] with;
        /** WORD by the hearer's SIGN: what is decided. */
        private final int[] decides;

        Words(Matter first) {
            matter = first;
            speaker = matter.voter[0];
            hearer = matter.voter[1];
            with = new long[SIDE];
            decides = new int[SIDE * SIDE];
        }

        static int lastPart(int signs) {
            return signs == 2 ? 1 : 4;
        }

        boolean areBelieved(Matter of, int v, int w, int which) {
            matter = of;
            speaker = matter.voter[v];
            hearer = matter.voter[w];
            // Of two SIGNS part 1 is all apart, which of three is part 4.
            part = speaker.signs == 2 ? which * 4 * SIDE : which * SIDE;
            int words = 0;
            for (int s = 0; s < speaker.signs; s++) {
                words = Math.max(words, WORD_OF[part + s] + 1);
            }
            for (int word = 0; word < words; word++) {
                hearWord(word);
            }
            for (int s = 0; s < speaker.signs; s++) {
                if (liesWith(s, words)) {
                    return false;
                }
            }
            return true;
        }

        private void hearWord(int word) {
            for (int own = 0; own < hearer.signs; own++) {
                for (int t = 0; t < SIDE; t++) {
                    with[t] = (long) matter.chance[t] * likelyWord(word, t) * hearer.like[t * SIDE + own];
                }
                decides[word * SIDE + own] = hearer.losses.leastOf(matter.truths, with, 0);
            }
        }

        private int likelyWord(int word, int t) {
            int likely = 0;
            for (int s = 0; s < speaker.signs; s++) {
                likely += WORD_OF[part + s] == word ? speaker.like[t * SIDE + s] : 0;
            }
            return likely;
        }

        /** Whether the speaker would lose less with a SIGN by another WORD; never with one that has no CASE. */
        private boolean liesWith(int s, int words) {
            long truly = lostBy(s, WORD_OF[part + s]);
            for (int word = 0; word < words; word++) {
                if (lostBy(s, word) < truly) {
                    return true;
                }
            }
            return false;
        }

        private long lostBy(int s, int word) {
            long lost = 0;
            for (int own = 0; own < hearer.signs; own++) {
                for (int t = 0; t < SIDE; t++) {
                    int likely = speaker.like[t * SIDE + s] * hearer.like[t * SIDE + own];
                    with[t] = (long) matter.chance[t] * likely;
                }
                lost += speaker.losses.lostAt(decides[word * SIDE + own], with, 0);
            }
            return lost;
        }
    }

    /** CASES drawn one after another by a seed. */
    private static final class Run {
        static final int MOST_CASES = 1000;

        private int x;
        private final int[] signs;

        Run() {
            signs = new int[MOST_VOTERS];
        }

        int rightOf(Matter matter, int seed, int cases) {
            x = seed;
            int right = 0;
            for (int i = 0; i < cases; i++) {
                int t = draw(matter.chance, 0, matter.truths);
                for (int v = 0; v < matter.voters; v++) {
                    signs[v] = draw(matter.voter[v].like, t * SIDE, matter.voter[v].signs);
                }
                if (matter.decidesWithSigns(signs) == t) {
                    right++;
                }
            }
            return right;
        }

        /** The first whose chance and those ahead of it together are above the draw. */
        private int draw(int[] chances, int from, int count) {
            x = x * 1103515245 + 12345;
            int drawn = (x >>> 8) % WHOLE;
            int sum = 0;
            for (int i = 0; i < count - 1; i++) {
                sum += chances[from + i];
                if (sum > drawn) {
                    return i;
                }
            }
            return count - 1;
        }
    }
}
