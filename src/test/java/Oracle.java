import java.util.ArrayList;
import java.util.HashMap;
import java.util.List;
import java.util.Map;

/**
 * The document's words done the long way, CASE by CASE, as a measure for the class.
 * It reads texts that have no FAULT alone; Faults tells of the others.
 */
final class Oracle {
    static final int NONE = -1;
    static final int NO_VOTE = 9;

    final List<String> truths = new ArrayList<>();
    final List<String> voters = new ArrayList<>();
    final List<Integer> chance = new ArrayList<>();
    /** VOTER, TRUTH, SIGN. */
    final List<int[][]> like = new ArrayList<>();
    final Map<String, Integer> losses = new HashMap<>();
    final Map<Integer, String[]> ways = new HashMap<>();
    final Map<Integer, Integer> weights = new HashMap<>();
    String[] rule = {"rule", "most"};
    int lines;
    /** A TRUTH and a SIGN of each VOTER. */
    final List<int[]> cases = new ArrayList<>();

    Oracle(String text) {
        for (String line : text.replace('\n', ' ').split(";")) {
            if (!line.isBlank()) {
                lines++;
                readLine(line.trim().replaceAll("([a-z])([0-9])", "$1 $2").split(" +"));
            }
        }
        addCases(new int[voters.size() + 1], 0);
    }

    private void readLine(String[] w) {
        switch (w[0]) {
            case "truth" -> {
                truths.add(w[1]);
                chance.add(Integer.parseInt(w[2]));
            }
            case "voter" -> readVoter(w);
            case "loss" -> {
                String whose = w.length == 5 ? w[1] : "";
                int from = w.length == 5 ? 2 : 1;
                losses.put(whose + "/" + w[from] + "/" + w[from + 1], Integer.parseInt(w[from + 2]));
            }
            case "way" -> ways.put(voters.indexOf(w[1]), w);
            case "weight" -> weights.put(voters.indexOf(w[1]), Integer.parseInt(w[2]));
            case "rule" -> rule = w;
            default -> throw new IllegalArgumentException(w[0]);
        }
    }

    private void readVoter(String[] w) {
        voters.add(w[1]);
        int signs = Integer.parseInt(w[3]);
        int[][] table = new int[truths.size()][signs];
        for (int i = 0; i < truths.size() * signs; i++) {
            table[i / signs][i % signs] = Integer.parseInt(w[4 + i]);
        }
        like.add(table);
    }

    private void addCases(int[] now, int at) {
        if (at == now.length) {
            cases.add(now.clone());
            return;
        }
        int many = at == 0 ? truths.size() : signs(at - 1);
        for (int i = 0; i < many; i++) {
            now[at] = i;
            addCases(now, at + 1);
        }
    }

    int nt() {
        return truths.size();
    }

    int n() {
        return voters.size();
    }

    int signs(int v) {
        return like.get(v)[0].length;
    }

    long parts(int[] c) {
        long parts = chance.get(c[0]);
        for (int v = 0; v < n(); v++) {
            parts *= like.get(v)[c[0]][c[v + 1]];
        }
        return parts;
    }

    /** Of VOTER v; NONE for the COMMON one. */
    int loss(int v, int t, int d) {
        String pair = "/" + truths.get(t) + "/" + truths.get(d);
        if (v != NONE && losses.containsKey(voters.get(v) + pair)) {
            return losses.get(voters.get(v) + pair);
        }
        return losses.getOrDefault(pair, t == d ? 0 : 1);
    }

    /** The TRUTH that loses least by the losses of v, where PARTS by TRUTH are as given. */
    int least(int v, long[] byTruth) {
        int best = 0;
        for (int d = 1; d < nt(); d++) {
            if (lostOf(v, byTruth, d) < lostOf(v, byTruth, best)) {
                best = d;
            }
        }
        return best;
    }

    long lostOf(int v, long[] byTruth, int d) {
        long lost = 0;
        for (int t = 0; t < nt(); t++) {
            lost += byTruth[t] * loss(v, t, d);
        }
        return lost;
    }

    int[][] votes() {
        int[][] votes = new int[n()][];
        for (int v = 0; v < n(); v++) {
            votes[v] = new int[signs(v)];
            for (int s = 0; s < signs(v); s++) {
                votes[v][s] = voteOf(v, s);
            }
        }
        return votes;
    }

    private int voteOf(int v, int s) {
        long[] byTruth = new long[nt()];
        long sum = 0;
        for (int[] c : cases) {
            if (c[v + 1] == s) {
                byTruth[c[0]] += parts(c);
                sum += parts(c);
            }
        }
        String[] way = ways.getOrDefault(v, new String[] {"way", voters.get(v), "honest"});
        int honest = least(v, byTruth);
        switch (way[2]) {
            case "honest":
                return honest;
            case "plain":
                int best = 0;
                for (int t = 1; t < nt(); t++) {
                    best = like.get(v)[t][s] > like.get(v)[best][s] ? t : best;
                }
                return best;
            case "shy":
                return byTruth[honest] * 20 >= sum * Integer.parseInt(way[3]) ? honest : NO_VOTE;
            default:
                return way[3 + s].equals("none") ? NO_VOTE : truths.indexOf(way[3 + s]);
        }
    }

    int weight(int v) {
        return weights.getOrDefault(v, 1);
    }

    int decide(int[] row) {
        int[] sums = new int[nt()];
        for (int v = 0; v < n(); v++) {
            if (row[v] != NO_VOTE) {
                sums[row[v]] += weight(v);
            }
        }
        if (rule[1].equals("need")) {
            boolean reached = sums[truths.indexOf(rule[3])] >= Integer.parseInt(rule[2]);
            return truths.indexOf(reached ? rule[3] : rule[5]);
        }
        int most = 0;
        for (int sum : sums) {
            most = Math.max(most, sum);
        }
        if (rule.length == 4) {
            int chairs = row[voters.indexOf(rule[3])];
            if (chairs != NO_VOTE && sums[chairs] == most) {
                return chairs;
            }
        }
        int first = 0;
        while (sums[first] != most) {
            first++;
        }
        return first;
    }

    int[] row(int[] c, int[][] votes) {
        int[] row = new int[n()];
        for (int v = 0; v < n(); v++) {
            row[v] = votes[v][c[v + 1]];
        }
        return row;
    }

    long[][] comes(int[][] votes) {
        long[][] comes = new long[nt()][nt()];
        for (int[] c : cases) {
            comes[c[0]][decide(row(c, votes))] += parts(c);
        }
        return comes;
    }

    long right(long[][] comes) {
        long right = 0;
        for (int t = 0; t < nt(); t++) {
            right += comes[t][t];
        }
        return right;
    }

    long lost(long[][] comes) {
        long lost = 0;
        for (int t = 0; t < nt(); t++) {
            for (int d = 0; d < nt(); d++) {
                lost += comes[t][d] * loss(NONE, t, d);
            }
        }
        return lost;
    }

    /** What comes, if in each group of CASES with one key the TRUTH that loses least is decided. */
    private long[][] bestBy(Map<String, long[]> groups) {
        long[][] comes = new long[nt()][nt()];
        for (long[] byTruth : groups.values()) {
            int d = least(NONE, byTruth);
            for (int t = 0; t < nt(); t++) {
                comes[t][d] += byTruth[t];
            }
        }
        return comes;
    }

    long[][] known() {
        Map<String, long[]> groups = new HashMap<>();
        for (int[] c : cases) {
            String key = java.util.Arrays.toString(java.util.Arrays.copyOfRange(c, 1, c.length));
            groups.computeIfAbsent(key, k -> new long[nt()])[c[0]] += parts(c);
        }
        return bestBy(groups);
    }

    long[][] bestRule() {
        int[][] votes = votes();
        Map<String, long[]> groups = new HashMap<>();
        for (int[] c : cases) {
            String key = java.util.Arrays.toString(row(c, votes));
            groups.computeIfAbsent(key, k -> new long[nt()])[c[0]] += parts(c);
        }
        return bestBy(groups);
    }

    int knownBy(int[] signs) {
        long[] byTruth = new long[nt()];
        for (int[] c : cases) {
            if (java.util.Arrays.equals(java.util.Arrays.copyOfRange(c, 1, c.length), signs)) {
                byTruth[c[0]] += parts(c);
            }
        }
        return least(NONE, byTruth);
    }

    private int[] candidates() {
        int[] all = new int[nt() + 1];
        for (int t = 0; t < nt(); t++) {
            all[t] = t;
        }
        all[nt()] = NO_VOTE;
        return all;
    }

    long[] turned(int v, int s) {
        int[][] votes = votes();
        long[] turned = new long[nt()];
        for (int[] c : cases) {
            int[] row = row(c, votes);
            int now = decide(row);
            boolean turns = false;
            for (int x : candidates()) {
                row[v] = x;
                turns |= decide(row) != now;
            }
            if (turns && c[v + 1] == s) {
                turned[c[0]] += parts(c);
            }
        }
        return turned;
    }

    int reply(int[][] votes, int v, int s) {
        long[] lost = new long[10];
        for (int x : candidates()) {
            for (int[] c : cases) {
                if (c[v + 1] == s) {
                    int[] row = row(c, votes);
                    row[v] = x;
                    lost[x] += parts(c) * loss(v, c[0], decide(row));
                }
            }
        }
        int best = votes[v][s];
        for (int x : candidates()) {
            if (lost[x] < lost[best]) {
                best = x;
            }
        }
        return best;
    }

    boolean isFit(int[][] votes) {
        for (int v = 0; v < n(); v++) {
            for (int s = 0; s < signs(v); s++) {
                if (reply(votes, v, s) != votes[v][s]) {
                    return false;
                }
            }
        }
        return true;
    }

    /** How many rounds it took, the votes being replaced. */
    int settle(int[][] votes) {
        for (int round = 1; round <= 50; round++) {
            boolean changed = false;
            for (int v = 0; v < n(); v++) {
                int[] own = new int[signs(v)];
                for (int s = 0; s < own.length; s++) {
                    own[s] = reply(votes, v, s);
                }
                changed |= !java.util.Arrays.equals(own, votes[v]);
                votes[v] = own;
            }
            if (!changed) {
                return round;
            }
        }
        return NONE;
    }

    /** All CASES speak at once, turn by turn; those that have said the same so far hear the same. */
    final class Talk {
        final List<String> said = new ArrayList<>();
        /** CASE by CASE the CLIFF, or NONE. */
        final List<Integer> cliffs = new ArrayList<>();

        Talk(int[] order) {
            for (int i = 0; i < cases.size(); i++) {
                said.add("");
                cliffs.add(NONE);
            }
            for (int turn = 0; turn < order.length; turn++) {
                speak(turn, order[turn]);
            }
        }

        private void speak(int turn, int v) {
            Map<String, long[]> heard = new HashMap<>();
            for (int i = 0; i < cases.size(); i++) {
                int[] c = cases.get(i);
                heard.computeIfAbsent(said.get(i) + "," + c[v + 1], k -> new long[nt()])[c[0]] += parts(c);
            }
            Map<String, Integer> mask = new HashMap<>();
            List<Integer> says = new ArrayList<>();
            for (int i = 0; i < cases.size(); i++) {
                int[] c = cases.get(i);
                int d = least(v, heard.get(said.get(i) + "," + c[v + 1]));
                says.add(d);
                mask.merge(said.get(i), parts(c) > 0 ? 1 << d : 0, (a, b) -> a | b);
            }
            for (int i = 0; i < cases.size(); i++) {
                boolean follows = Integer.bitCount(mask.get(said.get(i))) <= 1;
                cliffs.set(i, !follows ? NONE : cliffs.get(i) == NONE ? (Integer) turn : cliffs.get(i));
                said.set(i, said.get(i) + says.get(i));
            }
        }

        int decided(int i) {
            return said.get(i).charAt(n() - 1) - '0';
        }

        long[][] comes() {
            long[][] comes = new long[nt()][nt()];
            for (int i = 0; i < cases.size(); i++) {
                comes[cases.get(i)[0]][decided(i)] += parts(cases.get(i));
            }
            return comes;
        }

        long herd(boolean astray) {
            long herd = 0;
            for (int i = 0; i < cases.size(); i++) {
                boolean herding = cliffs.get(i) != NONE && cliffs.get(i) < n() - 1;
                if (herding && !(astray && cases.get(i)[0] == decided(i))) {
                    herd += parts(cases.get(i));
                }
            }
            return herd;
        }
    }

    int bestOrder() {
        List<int[]> orders = new ArrayList<>();
        addOrders(orders, new int[n()], 0);
        long least = Long.MAX_VALUE;
        int best = NONE;
        for (int[] order : orders) {
            long lost = lost(new Talk(order).comes());
            if (lost < least) {
                least = lost;
                best = 0;
                for (int v : order) {
                    best = best * 10 + v;
                }
            }
        }
        return best;
    }

    private void addOrders(List<int[]> orders, int[] now, int at) {
        if (at == now.length) {
            orders.add(now.clone());
            return;
        }
        for (int v = 0; v < now.length; v++) {
            boolean taken = false;
            for (int i = 0; i < at; i++) {
                taken |= now[i] == v;
            }
            if (!taken) {
                now[at] = v;
                addOrders(orders, now, at + 1);
            }
        }
    }

    /** What is LOST by 'need k t else u' with WEIGHTS as given. */
    long lostByNeed(int[] given, int k, int t, int u) {
        int[][] votes = votes();
        long lost = 0;
        for (int[] c : cases) {
            int[] row = row(c, votes);
            int sum = 0;
            for (int v = 0; v < n(); v++) {
                sum += row[v] == t ? given[v] : 0;
            }
            lost += parts(c) * loss(NONE, c[0], sum >= k ? t : u);
        }
        return lost;
    }

    /** k, and what is LOST by it. */
    long[] bar(int t, int u) {
        int[] told = new int[n()];
        for (int v = 0; v < n(); v++) {
            told[v] = weight(v);
        }
        long[] best = null;
        for (int k = 1; k <= 82; k++) {
            long lost = lostByNeed(told, k, t, u);
            if (best == null || lost < best[1]) {
                best = new long[] {k, lost};
            }
        }
        return best;
    }

    /** WEIGHTS, k, t, u, LOST. */
    long[] weighed() {
        long[] best = null;
        for (int table = 0; table < Math.pow(4, n()); table++) {
            int[] given = new int[n()];
            for (int v = n() - 1, rest = table; v >= 0; v--, rest /= 4) {
                given[v] = rest % 4;
            }
            for (int k = 1; k <= 15; k++) {
                for (int t = 0; t < nt(); t++) {
                    for (int u = 0; u < nt(); u++) {
                        long lost = t == u ? Long.MAX_VALUE : lostByNeed(given, k, t, u);
                        if (t != u && (best == null || lost < best[n() + 3])) {
                            best = new long[n() + 4];
                            for (int v = 0; v < n(); v++) {
                                best[v] = given[v];
                            }
                            best[n()] = k;
                            best[n() + 1] = t;
                            best[n() + 2] = u;
                            best[n() + 3] = lost;
                        }
                    }
                }
            }
        }
        return best;
    }

    /** What is LOST without the votes of v and of w (NONE for nobody). */
    long lostWithout(int v, int w) {
        int[][] votes = votes();
        for (int out : new int[] {v, w}) {
            if (out != NONE) {
                java.util.Arrays.fill(votes[out], NO_VOTE);
            }
        }
        return lost(comes(votes));
    }

    int silent() {
        int best = NONE;
        for (int v = 0; v < n(); v++) {
            if (lostWithout(v, NONE) < lostWithout(best, NONE)) {
                best = v;
            }
        }
        return best;
    }

    boolean helps(int v, int w) {
        return lostWithout(NONE, NONE) < lostWithout(v, NONE) && lostWithout(w, NONE) >= lostWithout(v, w);
    }

    /** The WORDS of a part: SIGN by SIGN the number of its WORD. */
    static int[] words(int signs, int part) {
        int[][] ofThree = {{0, 0, 0}, {0, 0, 1}, {0, 1, 0}, {1, 0, 0}, {0, 1, 2}};
        int[][] ofTwo = {{0, 0}, {0, 1}};
        return signs == 2 ? ofTwo[part] : ofThree[part];
    }

    boolean believed(int v, int w, int part) {
        int[] word = words(signs(v), part);
        for (int s = 0; s < signs(v); s++) {
            for (int other : word) {
                if (lostSaying(v, w, word, s, other) < lostSaying(v, w, word, s, word[s])) {
                    return false;
                }
            }
        }
        return true;
    }

    private long lostSaying(int v, int w, int[] word, int s, int spoken) {
        long lost = 0;
        for (int own = 0; own < signs(w); own++) {
            long[] byTruth = new long[nt()];
            for (int[] c : cases) {
                if (c[w + 1] == own && word[c[v + 1]] == spoken) {
                    byTruth[c[0]] += parts(c);
                }
            }
            int d = least(w, byTruth);
            for (int[] c : cases) {
                if (c[w + 1] == own && c[v + 1] == s) {
                    lost += parts(c) * loss(v, c[0], d);
                }
            }
        }
        return lost;
    }

    /** PARTS by TRUTH of the CASES with votes as told, of which VOTER v (NONE: any) has SIGN s. */
    long[] minutes(int[] told, int v, int s) {
        int[][] votes = votes();
        long[] byTruth = new long[nt()];
        for (int[] c : cases) {
            if (java.util.Arrays.equals(row(c, votes), told) && (v == NONE || c[v + 1] == s)) {
                byTruth[c[0]] += parts(c);
            }
        }
        return byTruth;
    }

    int guess(int[] told) {
        long[] byTruth = minutes(told, NONE, 0);
        int best = NONE;
        for (int t = 0; t < nt(); t++) {
            if (byTruth[t] > (best == NONE ? 0 : byTruth[best])) {
                best = t;
            }
        }
        return best;
    }

    long shut(int d, int v, int s) {
        int[][] votes = votes();
        long sum = 0;
        for (int[] c : cases) {
            sum += decide(row(c, votes)) == d && c[v + 1] == s ? parts(c) : 0;
        }
        return sum;
    }

    /** All FITS, in their order. */
    List<int[][]> fits() {
        List<int[][]> fits = new ArrayList<>();
        addFits(fits, votes(), 0, 0);
        return fits;
    }

    private void addFits(List<int[][]> fits, int[][] votes, int v, int s) {
        if (v == n()) {
            if (isFit(votes)) {
                int[][] copy = new int[n()][];
                for (int i = 0; i < n(); i++) {
                    copy[i] = votes[i].clone();
                }
                fits.add(copy);
            }
            return;
        }
        boolean last = s + 1 == signs(v);
        for (int x : candidates()) {
            votes[v][s] = x;
            addFits(fits, votes, last ? v + 1 : v, last ? 0 : s + 1);
        }
    }

    int[][] bestFit(List<int[][]> fits) {
        int[][] best = fits.get(0);
        for (int[][] fit : fits) {
            if (lost(comes(fit)) < lost(comes(best))) {
                best = fit;
            }
        }
        return best;
    }

    int run(int seed, int many) {
        int[][] votes = votes();
        int[] x = {seed};
        int right = 0;
        for (int i = 0; i < many; i++) {
            int[] c = new int[n() + 1];
            int[] chances = new int[nt()];
            for (int t = 0; t < nt(); t++) {
                chances[t] = chance.get(t);
            }
            c[0] = draw(x, chances);
            for (int v = 0; v < n(); v++) {
                c[v + 1] = draw(x, like.get(v)[c[0]]);
            }
            right += decide(row(c, votes)) == c[0] ? 1 : 0;
        }
        return right;
    }

    private static int draw(int[] x, int[] chances) {
        x[0] = x[0] * 1103515245 + 12345;
        int drawn = (x[0] >>> 8) % 20;
        int at = 0;
        int sum = chances[0];
        while (sum <= drawn) {
            at++;
            sum += chances[at];
        }
        return at;
    }
}
