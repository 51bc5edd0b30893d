import java.util.ArrayList;
import java.util.Arrays;
import java.util.List;

/**
 * The document once more, in its plainest form and by other means than the class: copies instead of
 * rows that are used again, hour by hour, all rows and orders written out. ModelTest compares both.
 */
final class PlainModel {
    static final int NONE = -1, UNKNOWN = -1000000001, OUTSIDE = -1000000002, NOT = -1000000003, FULL = -1000000004;

    /** Where each SLEEPER lies (NONE: UP), how warm each is, and the HOUR. */
    private static final class State {
        int[] place = new int[0];
        int[] warmth = new int[0];
        int hours = 0;

        State copy() {
            State c = new State();
            c.place = place.clone();
            c.warmth = warmth.clone();
            c.hours = hours;
            return c;
        }

        boolean like(State o) {
            return Arrays.equals(place, o.place) && Arrays.equals(warmth, o.warmth);
        }
    }

    private StringBuilder text = new StringBuilder();
    private int faultAt = NONE;
    private int places = 0;
    private int ring = 0;
    private int[] heat = new int[0];
    private List<int[]> sleepers = new ArrayList<>();
    private List<Integer> law = new ArrayList<>(List.of(0));
    private State now = new State();
    private List<State> past = new ArrayList<>();
    private List<int[]> seen = new ArrayList<>();
    private List<Integer> book = new ArrayList<>();
    private long seed = 0;
    private final State[] images = new State[2];
    private final long[] imageSeeds = new long[2];

    // ---- the text: cut into tokens first, then walked clause by clause

    private static final class Fault extends Exception {
        private static final long serialVersionUID = 1L;
        final int number;
        final int at;

        Fault(int number, int at) {
            this.number = number;
            this.at = at;
        }
    }

    /** {start, value, kind}: kind 0 a letter, 1 a NUMBER (value -1: of four figures or more), 2 the end. */
    private static List<int[]> tokens(String t) {
        List<int[]> out = new ArrayList<>();
        int i = 0;
        while (i < t.length()) {
            char c = t.charAt(i);
            if (c == ' ') {
                i++;
                continue;
            }
            if (c < '0' || c > '9') {
                out.add(new int[] {i, c, 0});
                i++;
                continue;
            }
            int from = i;
            while (i < t.length() && t.charAt(i) >= '0' && t.charAt(i) <= '9') {
                i++;
            }
            out.add(new int[] {from, i - from > 3 ? -1 : Integer.parseInt(t.substring(from, i)), 1});
        }
        out.add(new int[] {t.length(), 0, 2});
        return out;
    }

    private static int number(int[] token, int low, int high) throws Fault {
        if (token[2] != 1) {
            throw new Fault(1, token[0]);
        }
        if (token[1] < low || token[1] > high) {
            throw new Fault(2, token[0]);
        }
        return token[1];
    }

    private static boolean letter(int[] token, char c) {
        return token[2] == 0 && token[1] == c;
    }

    private static void must(int[] token, char c) throws Fault {
        if (!letter(token, c)) {
            throw new Fault(1, token[0]);
        }
    }

    private int parse(String t) throws Fault {
        List<int[]> k = tokens(t);
        int i = 0;
        int newPlaces = 0;
        int newRing = 0;
        int[] newHeat = new int[0];
        boolean[] hot = new boolean[0];
        List<int[]> newSleepers = new ArrayList<>();
        List<Integer> newLaw = null;
        while (k.get(i)[2] != 2) {
            int[] word = k.get(i);
            if (newPlaces == 0 && !letter(word, 'b')) {
                throw new Fault(1, word[0]);
            }
            if (letter(word, 'b')) {
                if (newPlaces != 0) {
                    throw new Fault(3, word[0]);
                }
                newPlaces = number(k.get(i + 1), 2, 6);
                newRing = number(k.get(i + 2), 0, 1);
                must(k.get(i + 3), ';');
                newHeat = new int[newPlaces];
                hot = new boolean[newPlaces];
                i += 4;
            } else if (letter(word, 'h')) {
                int p = number(k.get(i + 1), 0, newPlaces - 1);
                if (hot[p]) {
                    throw new Fault(4, k.get(i + 1)[0]);
                }
                newHeat[p] = number(k.get(i + 2), 0, 9);
                hot[p] = true;
                must(k.get(i + 3), ';');
                i += 4;
            } else if (letter(word, 's')) {
                if (newSleepers.size() == newPlaces) {
                    throw new Fault(3, word[0]);
                }
                int w = number(k.get(i + 1), 1, 99);
                int g = number(k.get(i + 2), 0, 9);
                int l = number(k.get(i + 3), 0, 20);
                int wakes = number(k.get(i + 4), 0, 98);
                if (wakes >= w) {
                    throw new Fault(4, k.get(i + 4)[0]);
                }
                must(k.get(i + 5), ';');
                newSleepers.add(new int[] {w, g, l, wakes});
                i += 6;
            } else if (letter(word, 'r')) {
                if (newLaw != null) {
                    throw new Fault(3, word[0]);
                }
                newLaw = new ArrayList<>();
                newLaw.add(number(k.get(i + 1), 0, 3));
                i += 2;
                while (letter(k.get(i), ',')) {
                    if (newLaw.size() == 8) {
                        throw new Fault(1, k.get(i)[0]);
                    }
                    newLaw.add(number(k.get(i + 1), 0, 3));
                    i += 2;
                }
                must(k.get(i), ';');
                i++;
            } else {
                throw new Fault(1, word[0]);
            }
        }
        places = newPlaces;
        ring = newRing;
        heat = newHeat;
        sleepers = newSleepers;
        law = newLaw == null ? new ArrayList<>(List.of(0)) : newLaw;
        return sleepers.size();
    }

    int feed(int letter) {
        if (letter < 0 || letter > 255) {
            return OUTSIDE;
        }
        if (text.length() == 200) {
            return FULL;
        }
        text.append((char) letter);
        return text.length();
    }

    int bed() {
        String t = text.toString();
        text = new StringBuilder();
        try {
            int count = parse(t);
            faultAt = NONE;
            now = new State();
            now.place = new int[count];
            now.warmth = new int[count];
            for (int s = 0; s < count; s++) {
                now.place[s] = s;
                now.warmth[s] = sleepers.get(s)[0];
            }
            past.clear();
            seen.clear();
            book.clear();
            images[0] = null;
            images[1] = null;
            return count;
        } catch (Fault f) {
            faultAt = f.at;
            return -10 - f.number;
        }
    }

    int fault() {
        return faultAt;
    }

    // ---- the state

    private boolean noSleeper(int s) {
        return s < 0 || s >= sleepers.size();
    }

    private static boolean nobody(State t) {
        return Arrays.stream(t.place).allMatch(p -> p == NONE);
    }

    private int whoIn(State t, int p) {
        for (int s = 0; s < t.place.length; s++) {
            if (t.place[s] == p) {
                return s;
            }
        }
        return NONE;
    }

    private int awake(State t) {
        int set = 0;
        for (int s = 0; s < t.place.length; s++) {
            if (t.place[s] != NONE && t.warmth[s] <= sleepers.get(s)[3]) {
                set += 1 << s;
            }
        }
        return set;
    }

    private int coldest(State t) {
        int best = Integer.MAX_VALUE;
        for (int s = 0; s < t.place.length; s++) {
            if (t.place[s] != NONE) {
                best = Math.min(best, 100 + t.warmth[s] - sleepers.get(s)[3]);
            }
        }
        return best == Integer.MAX_VALUE ? NONE : best;
    }

    private boolean beside(int p, int q) {
        return Math.abs(p - q) == 1 || ring == 1 && places >= 3 && Math.abs(p - q) == places - 1;
    }

    private State after(State t, int word) {
        State n = t.copy();
        for (int s = 0; s < n.place.length; s++) {
            int p = n.place[s];
            if (p == NONE) {
                continue;
            }
            if (word == 1) {
                n.place[s] = (p + 1) % places;
            } else if (word == 2) {
                n.place[s] = (p + places - 1) % places;
            } else if (word == 3 && (p == 0 || p == places - 1)) {
                n.place[s] = places - 1 - p;
            }
        }
        for (int s = 0; s < n.place.length; s++) {
            int loses = sleepers.get(s)[2];
            if (n.place[s] == NONE) {
                n.warmth[s] = Math.max(0, t.warmth[s] - 2 * loses);
                continue;
            }
            int w = t.warmth[s] + heat[n.place[s]] - loses;
            for (int o = 0; o < n.place.length; o++) {
                if (n.place[o] != NONE && beside(n.place[s], n.place[o])) {
                    w += sleepers.get(o)[1];
                }
            }
            n.warmth[s] = Math.min(99, Math.max(0, w));
        }
        n.hours++;
        return n;
    }

    private State byLaw(State t) {
        return after(t, law.get(t.hours % law.size()));
    }

    private void go(State next) {
        past.add(now);
        if (past.size() > 30) {
            past.remove(0);
        }
        now = next;
    }

    int told(int what) {
        if (what < 0 || what > 11) {
            return OUTSIDE;
        }
        int up = 0;
        for (int s = 0; s < now.place.length; s++) {
            up += now.place[s] == NONE ? 1 << s : 0;
        }
        return new int[] {places, ring, sleepers.size(), law.size(), text.length(), now.hours, up, awake(now),
            coldest(now), seen.size(), book.size(), past.size()}[what];
    }

    int place(int p, int what) {
        if (p < 0 || p >= places) {
            return UNKNOWN;
        }
        if (what < 0 || what > 1) {
            return OUTSIDE;
        }
        return what == 0 ? heat[p] : whoIn(now, p);
    }

    int sleeper(int s, int what) {
        if (noSleeper(s)) {
            return UNKNOWN;
        }
        if (what < 0 || what > 4) {
            return OUTSIDE;
        }
        return what == 0 ? now.warmth[s] : what == 4 ? now.place[s] : sleepers.get(s)[what];
    }

    int rule(int i) {
        return i >= 0 && i < law.size() ? law.get(i) : NONE;
    }

    // ---- hours

    int hour(int word) {
        if (word < 0 || word > 3) {
            return UNKNOWN;
        }
        if (places == 0) {
            return NOT;
        }
        if (now.hours > 90000) {
            return FULL;
        }
        go(after(now, word));
        return coldest(now);
    }

    int night(int n) {
        if (n < 1 || n > 99) {
            return OUTSIDE;
        }
        if (places == 0) {
            return NOT;
        }
        if (now.hours > 90000) {
            return FULL;
        }
        for (int k = 0; k < n; k++) {
            go(byLaw(now));
        }
        return coldest(now);
    }

    int getUp(int s) {
        if (noSleeper(s)) {
            return UNKNOWN;
        }
        int p = now.place[s];
        if (p == NONE) {
            return NOT;
        }
        State next = now.copy();
        next.place[s] = NONE;
        for (int o = 0; o < next.place.length; o++) {
            if (next.place[o] > p) {
                next.place[o]--;
            }
        }
        go(next);
        return p;
    }

    int comeIn(int s) {
        if (noSleeper(s)) {
            return UNKNOWN;
        }
        if (now.place[s] != NONE) {
            return NOT;
        }
        State next = now.copy();
        for (int p = 0; p < places; p++) {
            if (whoIn(now, p) == NONE) {
                next.place[s] = p;
            }
        }
        go(next);
        return next.place[s];
    }

    int drift(int n) {
        if (n < 1 || n > 99) {
            return OUTSIDE;
        }
        if (places == 0) {
            return NOT;
        }
        if (now.hours > 90000) {
            return FULL;
        }
        for (int k = 0; k < n; k++) {
            seed = (seed * 1103515245L + 12345L) % (1L << 31);
            long d = seed / 65536 % 6;
            go(d < 4 ? after(now, (int) d) : byLaw(now));
        }
        return coldest(now);
    }

    int undo(int n) {
        if (n < 1 || n > 30) {
            return OUTSIDE;
        }
        if (n > past.size()) {
            return NOT;
        }
        for (int k = 0; k < n; k++) {
            now = past.remove(past.size() - 1);
        }
        return now.hours;
    }

    // ---- tried

    int firstAwake(int what) {
        if (what < 0 || what > 1) {
            return OUTSIDE;
        }
        State t = now;
        for (int k = 0; k <= 99; k++) {
            if (awake(t) != 0) {
                int who = 0;
                while ((awake(t) >> who & 1) == 0) {
                    who++;
                }
                return what == 0 ? k : who;
            }
            t = places == 0 ? t : byLaw(t);
        }
        return NONE;
    }

    /** All rows of n WORDS, rising. */
    private static List<int[]> rows(int n) {
        List<int[]> out = new ArrayList<>();
        out.add(new int[0]);
        for (int k = 0; k < n; k++) {
            List<int[]> longer = new ArrayList<>();
            for (int[] r : out) {
                for (int w = 0; w < 4; w++) {
                    int[] l = Arrays.copyOf(r, r.length + 1);
                    l[r.length] = w;
                    longer.add(l);
                }
            }
            out = longer;
        }
        return out;
    }

    /** The state behind n hours of a row said again and again; null: one was AWAKE behind one of them. */
    private State asleep(int[] row, int n) {
        State t = now;
        for (int k = 0; k < n; k++) {
            t = after(t, row[k % row.length]);
            if (awake(t) != 0) {
                return null;
            }
        }
        return t;
    }

    int turnsFor(int n, int i) {
        if (n < 1 || n > 5) {
            return OUTSIDE;
        }
        if (nobody(now)) {
            return NOT;
        }
        int[] best = null;
        int bestWorth = -1;
        for (int[] row : rows(n)) {
            State t = asleep(row, n);
            if (t == null) {
                continue;
            }
            int worth = coldest(t) * 10 + 9 - (int) Arrays.stream(row).filter(w -> w != 0).count();
            if (worth > bestWorth) {
                bestWorth = worth;
                best = row;
            }
        }
        if (best == null) {
            return NONE;
        }
        return i == NONE ? bestWorth / 10 : i >= 0 && i < n ? best[i] : NONE;
    }

    int rhyme(int n, int i) {
        if (n < 1 || n > 30) {
            return OUTSIDE;
        }
        if (nobody(now)) {
            return NOT;
        }
        for (int length = 1; length <= 4; length++) {
            for (int[] row : rows(length)) {
                if (asleep(row, n) != null) {
                    return i == NONE ? length : i >= 0 && i < length ? row[i] : NONE;
                }
            }
        }
        return NONE;
    }

    private static void orders(List<Integer> left, List<Integer> so, List<List<Integer>> out) {
        if (left.isEmpty()) {
            out.add(new ArrayList<>(so));
        }
        for (int k = 0; k < left.size(); k++) {
            List<Integer> rest = new ArrayList<>(left);
            so.add(rest.remove(k));
            orders(rest, so, out);
            so.remove(so.size() - 1);
        }
    }

    int laid(int n, int i) {
        if (n < 1 || n > 9) {
            return OUTSIDE;
        }
        if (nobody(now)) {
            return NONE;
        }
        List<Integer> in = new ArrayList<>();
        List<Integer> taken = new ArrayList<>();
        for (int s = 0; s < now.place.length; s++) {
            if (now.place[s] != NONE) {
                in.add(s);
            }
        }
        for (int p = 0; p < places; p++) {
            if (whoIn(now, p) != NONE) {
                taken.add(p);
            }
        }
        List<List<Integer>> all = new ArrayList<>();
        orders(in, new ArrayList<>(), all);
        int best = -1;
        List<Integer> bestOrder = null;
        for (List<Integer> order : all) {
            State t = now.copy();
            for (int k = 0; k < order.size(); k++) {
                t.place[order.get(k)] = taken.get(k);
            }
            for (int k = 0; k < n; k++) {
                t = after(t, 0);
            }
            if (coldest(t) > best) {
                best = coldest(t);
                bestOrder = order;
            }
        }
        return i == NONE ? best : i >= 0 && i < bestOrder.size() ? bestOrder.get(i) : NONE;
    }

    int change(int i) {
        List<Integer> pairs = new ArrayList<>();
        State so = places == 0 ? now : after(now, 0);
        for (int a = 0; a < now.place.length; a++) {
            for (int b = a + 1; b < now.place.length; b++) {
                if (now.place[a] == NONE || now.place[b] == NONE) {
                    continue;
                }
                State t = now.copy();
                t.place[a] = now.place[b];
                t.place[b] = now.place[a];
                t = after(t, 0);
                if (t.warmth[a] > so.warmth[a] && t.warmth[b] > so.warmth[b]) {
                    pairs.add(10 * a + b);
                }
            }
        }
        return i == NONE ? pairs.size() : i >= 0 && i < pairs.size() ? pairs.get(i) : NONE;
    }

    int steady(int s) {
        if (s != NONE && noSleeper(s)) {
            return UNKNOWN;
        }
        if (places == 0) {
            return NOT;
        }
        int warm = 0;
        for (int p = places - 1; p >= 0; p--) {
            warm = heat[p] >= heat[warm] ? p : warm;
        }
        List<State> nights = new ArrayList<>(List.of(now));
        for (int round = 1; round <= 200; round++) {
            for (int k = 0; k < law.size(); k++) {
                nights.add(byLaw(nights.get(nights.size() - 1)));
            }
            int last = nights.size() - 1;
            for (int ago = 1; ago <= round; ago++) {
                if (nights.get(last).like(nights.get(last - ago * law.size()))) {
                    if (s == NONE) {
                        return ago;
                    }
                    int hours = 0;
                    for (int h = last - ago * law.size() + 1; h <= last; h++) {
                        hours += nights.get(h).place[s] == warm ? 1 : 0;
                    }
                    return hours;
                }
            }
        }
        return NONE;
    }

    int twoBeds(int what) {
        if (what < 0 || what > 1) {
            return OUTSIDE;
        }
        int best = NONE;
        int bestSet = NONE;
        for (int set = (1 << sleepers.size()) - 1; set > 0; set--) {
            if (set % 2 == 0) {
                continue;
            }
            int one = 0;
            int other = 0;
            for (int s = 0; s < sleepers.size(); s++) {
                if ((set >> s) % 2 == 1) {
                    one += sleepers.get(s)[1];
                } else {
                    other += sleepers.get(s)[1];
                }
            }
            if (best == NONE || Math.abs(one - other) <= best) {
                best = Math.abs(one - other);
                bestSet = set;
            }
        }
        return what == 0 ? best : bestSet;
    }

    int nobodyUp(int n, int q) {
        if (n < 1 || n > 50 || q < 0 || q > 1000) {
            return OUTSIDE;
        }
        long odds = 1000000000;
        for (int h = 0; h < n; h++) {
            for (int p : now.place) {
                odds = p == NONE ? odds : odds * (1000 - q) / 1000;
            }
        }
        return (int) odds;
    }

    // ---- what was seen

    int morning(int s, int p) {
        if (noSleeper(s) || p < 0 || p >= places) {
            return UNKNOWN;
        }
        if (seen.size() == 6) {
            return FULL;
        }
        seen.add(new int[] {s, p});
        return seen.size();
    }

    private List<int[]> fitting(int m) {
        List<int[]> out = new ArrayList<>();
        for (int[] row : rows(m)) {
            State t = now;
            for (int w : row) {
                t = after(t, w);
            }
            boolean so = true;
            for (int[] one : seen) {
                so &= t.place[one[0]] == one[1];
            }
            if (so) {
                out.add(row);
            }
        }
        return out;
    }

    int counted(int m, int i) {
        if (m < 1 || m > 5) {
            return OUTSIDE;
        }
        if (places == 0) {
            return NOT;
        }
        List<int[]> fit = fitting(m);
        return i == NONE ? fit.size() : i >= 0 && i < m && !fit.isEmpty() ? fit.get(0)[i] : NONE;
    }

    int sure(int m) {
        if (m < 1 || m > 5) {
            return OUTSIDE;
        }
        if (places == 0) {
            return NOT;
        }
        int set = 0;
        List<int[]> fit = fitting(m);
        for (int w = 0; w < 4 && !fit.isEmpty(); w++) {
            int word = w;
            if (fit.stream().allMatch(row -> Arrays.stream(row).anyMatch(k -> k == word))) {
                set += 1 << w;
            }
        }
        return set;
    }

    int write(int word) {
        if (word < 0 || word > 3) {
            return UNKNOWN;
        }
        if (book.size() == 20) {
            return FULL;
        }
        book.add(word);
        return book.size();
    }

    int judge(int what) {
        if (what < 0 || what > 1) {
            return OUTSIDE;
        }
        if (nobody(now)) {
            return NOT;
        }
        State t = now;
        int wrong = NONE;
        for (int k = 0; k < book.size(); k++) {
            t = after(t, book.get(k));
            wrong = wrong == NONE && awake(t) != 0 ? k : wrong;
        }
        return what == 0 ? wrong : coldest(t);
    }

    int tear() {
        int both = seen.size() + book.size();
        seen.clear();
        book.clear();
        return both;
    }

    // ---- images

    int seed(int v) {
        if (v < 0) {
            return OUTSIDE;
        }
        int was = (int) seed;
        seed = v;
        return was;
    }

    int keep(int i) {
        if (i < 0 || i > 1) {
            return UNKNOWN;
        }
        images[i] = now;
        imageSeeds[i] = seed;
        past.clear();
        return 1;
    }

    int goBack(int i) {
        if (i < 0 || i > 1) {
            return UNKNOWN;
        }
        if (images[i] == null) {
            return NOT;
        }
        now = images[i];
        seed = imageSeeds[i];
        past.clear();
        return 1;
    }
}
