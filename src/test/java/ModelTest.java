import java.math.BigInteger;
import java.util.ArrayDeque;
import java.util.ArrayList;
import java.util.Arrays;
import java.util.Deque;
import java.util.HashMap;
import java.util.HashSet;
import java.util.List;
import java.util.Map;
import java.util.Random;
import java.util.Set;
import java.util.TreeSet;

/**
 * Long runs of drawn calls (the same ones each time) against a second, slow telling of the document:
 * sets are sets, rows are gone through one by one, minutes are walked minute by minute.
 */
public final class ModelTest {
    private static final int UNKNOWN = -1, BAD = -2, LATE = -3, FULL = -4, NONE = -9;
    private static final int RUNS = 2500;
    /** What an object answers behind its 512th call is free; the longest step of a run makes less than 50 calls. */
    private static final int LAST_STEP_FROM = 512 - 50;

    record Look(int minute, Set<Integer> in, int hat, Set<Integer> blinks) { }

    record Strip(int booth, List<Look> looks, int torn, int faded) {
        Strip torn(int k) {
            return new Strip(booth, looks, k, faded);
        }

        Strip fadedByOne() {
            return new Strip(booth, looks, torn, Math.min(9, faded + 1));
        }
    }

    record Booth(int first, int every) {
        boolean flashes(int minute) {
            for (int at = first; at <= minute; at += every) {
                if (at == minute) {
                    return true;
                }
            }
            return false;
        }
    }

    static final class State implements Cloneable {
        long seed;
        int minute;
        int day;
        int hat = NONE;
        List<Strip> strips = new ArrayList<>();
        List<List<Look>> begun = List.of(List.of(), List.of());
        Map<Integer, Integer> where = new HashMap<>();
        Map<Integer, int[]> left = new HashMap<>();

        State copy() {
            State s = new State();
            s.seed = seed;
            s.minute = minute;
            s.day = day;
            s.hat = hat;
            s.strips = new ArrayList<>(strips);
            s.begun = begun;
            s.where = new HashMap<>(where);
            s.left = new HashMap<>(left);
            return s;
        }

        Set<Integer> in(int booth) {
            Set<Integer> in = new TreeSet<>();
            where.forEach((person, at) -> {
                if (at == booth) {
                    in.add(person);
                }
            });
            return in;
        }
    }

    static final class Model {
        StringBuilder text = new StringBuilder();
        int walk;
        List<Booth> booths = new ArrayList<>();
        List<Integer> people = new ArrayList<>();
        State s = new State();
        Deque<State> acts = new ArrayDeque<>();
        State[] kept = new State[2];

        static int bits(Set<Integer> set) {
            return set.stream().mapToInt(p -> 1 << p).sum();
        }

        static Set<Integer> setOf(int bits) {
            Set<Integer> set = new TreeSet<>();
            for (int p = 0; p < 31; p++) {
                if ((bits & 1 << p) != 0) {
                    set.add(p);
                }
            }
            return set;
        }

        static boolean isFair(String t) {
            return t.matches("B[0-9](S[0-9][1-9]|P[0-9])*")
                && t.chars().filter(c -> c == 'S').count() <= 2
                && t.chars().filter(c -> c == 'P').count() <= 5;
        }

        int fault() {
            for (int n = 0; n <= text.length(); n++) {
                String head = text.substring(0, n);
                if (!isFair(head) && !isFair(head + "1") && !isFair(head + "11") && !isFair(head + "B1")) {
                    return n - 1;
                }
            }
            return isFair(text.toString()) ? NONE : text.length();
        }

        int write(int letter) {
            if (letter < 0 || letter > 255) {
                return BAD;
            }
            if (text.length() == 24) {
                return FULL;
            }
            text.append((char) letter);
            return text.length();
        }

        int wipe() {
            int was = text.length();
            text.setLength(0);
            return was;
        }

        int fair() {
            if (!isFair(text.toString())) {
                return LATE;
            }
            walk = text.charAt(1) - '0';
            booths.clear();
            people.clear();
            for (int i = 2; i < text.length(); i++) {
                if (text.charAt(i) == 'S') {
                    booths.add(new Booth(text.charAt(i + 1) - '0', text.charAt(i + 2) - '0'));
                }
                if (text.charAt(i) == 'P') {
                    people.add(text.charAt(i + 1) - '0');
                }
            }
            long seed = s.seed;
            s = new State();
            s.seed = seed;
            acts.clear();
            kept = new State[2];
            return booths.size() * 10 + people.size();
        }

        boolean noPerson(int p) {
            return p < 0 || p >= people.size();
        }

        boolean noBooth(int b) {
            return b < 0 || b >= booths.size();
        }

        boolean noStrip(int i) {
            return i < 0 || i >= s.strips.size();
        }

        int about(int what) {
            if (what == 8) {
                int torn = 0;
                for (int i = 0; i < s.strips.size(); i++) {
                    torn += s.strips.get(i).torn() > 0 ? 1 << i : 0;
                }
                return torn;
            }
            int[] all = {booths.size(), people.size(), walk, s.minute, s.day, s.strips.size(), s.hat, acts.size(), 0, text.length()};
            return what < 0 || what > 9 ? BAD : all[what];
        }

        int booth(int b, int what) {
            if (noBooth(b)) {
                return UNKNOWN;
            }
            int next = s.minute;
            while (!booths.get(b).flashes(next)) {
                next++;
            }
            int[] all = {booths.get(b).first(), booths.get(b).every(), bits(s.in(b)), s.begun.get(b).size(), next};
            return what < 0 || what > 4 ? BAD : all[what];
        }

        int person(int p, int what) {
            if (noPerson(p)) {
                return UNKNOWN;
            }
            int[] left = s.left.getOrDefault(p, new int[] {NONE, NONE});
            int[] all = {people.get(p), s.where.getOrDefault(p, NONE), left[0], left[1]};
            return what < 0 || what > 3 ? BAD : all[what];
        }

        int strip(int i, int what) {
            if (noStrip(i)) {
                return UNKNOWN;
            }
            Strip strip = s.strips.get(i);
            Set<Integer> on = new TreeSet<>();
            strip.looks().forEach(l -> on.addAll(l.in()));
            int[] all = {strip.booth(), strip.torn(), strip.faded(), bits(on)};
            return what < 0 || what > 3 ? BAD : all[what];
        }

        int look(int i, int look, int what) {
            if (noStrip(i)) {
                return UNKNOWN;
            }
            if (look < 0 || look > 3 || what < 0 || what > 3) {
                return BAD;
            }
            Look l = s.strips.get(i).looks().get(look);
            return new int[] {l.minute(), bits(l.in()), l.hat(), bits(l.blinks())}[what];
        }

        long seed(long v) {
            long was = s.seed;
            s.seed = v;
            return was;
        }

        void act() {
            acts.addLast(s.copy());
            if (acts.size() > 12) {
                acts.removeFirst();
            }
        }

        int enter(int p, int b) {
            if (noPerson(p) || noBooth(b)) {
                return UNKNOWN;
            }
            int[] left = s.left.get(p);
            if (s.where.containsKey(p) || (left != null && left[0] != b && s.minute - left[1] < walk)) {
                return LATE;
            }
            if (s.in(b).size() == 4) {
                return FULL;
            }
            act();
            s.where.put(p, b);
            return s.in(b).size();
        }

        int leave(int p) {
            if (noPerson(p)) {
                return UNKNOWN;
            }
            if (!s.where.containsKey(p)) {
                return LATE;
            }
            act();
            int b = s.where.remove(p);
            s.left.put(p, new int[] {b, s.minute});
            if (s.hat == p) {
                s.hat = NONE;
            }
            return s.in(b).size();
        }

        int hat(int p) {
            if (noPerson(p)) {
                return UNKNOWN;
            }
            Integer b = s.where.get(p);
            if (b == null || s.hat == p || (s.hat != NONE && !b.equals(s.where.get(s.hat)))) {
                return LATE;
            }
            act();
            int had = s.hat;
            s.hat = p;
            return had;
        }

        int minute() {
            act();
            int before = s.strips.size();
            for (int b = 0; b < booths.size(); b++) {
                Set<Integer> in = s.in(b);
                if (booths.get(b).flashes(s.minute) && s.strips.size() < 8 && !(in.isEmpty() && s.begun.get(b).isEmpty())) {
                    takeLook(b, in);
                }
            }
            s.minute++;
            return s.strips.size() - before;
        }

        void takeLook(int b, Set<Integer> in) {
            Set<Integer> blinks = new TreeSet<>();
            for (int p : in) {
                BigInteger x = BigInteger.valueOf(s.seed).multiply(new BigInteger("6364136223846793005"))
                    .add(new BigInteger("1442695040888963407"));
                s.seed = x.longValue();
                BigInteger upper = x.mod(BigInteger.ONE.shiftLeft(64)).shiftRight(33);
                if (upper.mod(BigInteger.TEN).intValue() < people.get(p)) {
                    blinks.add(p);
                }
            }
            List<Look> looks = new ArrayList<>(s.begun.get(b));
            looks.add(new Look(s.minute, in, in.contains(s.hat) ? s.hat : NONE, blinks));
            if (looks.size() == 4) {
                s.strips.add(new Strip(b, looks, 0, 0));
                looks = List.of();
            }
            List<List<Look>> begun = new ArrayList<>(s.begun);
            begun.set(b, looks);
            s.begun = begun;
        }

        int stuck() {
            if (s.strips.size() < 2) {
                return LATE;
            }
            act();
            Strip last = s.strips.remove(s.strips.size() - 1);
            s.strips.add(s.strips.size() - 1, last);
            return s.strips.get(s.strips.size() - 1).booth();
        }

        int tear(int i, int k) {
            if (noStrip(i)) {
                return UNKNOWN;
            }
            if (k < 1 || k > 3) {
                return BAD;
            }
            if (s.strips.get(i).torn() > 0) {
                return LATE;
            }
            act();
            s.strips.set(i, s.strips.get(i).torn(k));
            return (int) s.strips.stream().filter(t -> t.torn() > 0).count();
        }

        int day() {
            act();
            s.strips.replaceAll(Strip::fadedByOne);
            return ++s.day;
        }

        int undo() {
            if (acts.isEmpty()) {
                return LATE;
            }
            s = acts.removeLast();
            return acts.size();
        }

        /** The sets of a row, or null. */
        static List<Set<Integer>> row(int n, int row) {
            String figures = String.valueOf(row);
            if (row < 0 || figures.length() > 2 * n) {
                return null;
            }
            figures = "0".repeat(2 * n - figures.length()) + figures;
            List<Set<Integer>> sets = new ArrayList<>();
            for (int i = 0; i < n; i++) {
                int set = Integer.parseInt(figures.substring(2 * i, 2 * i + 2));
                if (set > 31) {
                    return null;
                }
                sets.add(setOf(set));
            }
            return sets;
        }

        int found(int i, int n, int row) {
            if (noStrip(i)) {
                return UNKNOWN;
            }
            if (n < 1 || n > 4 || row(n, row) == null) {
                return BAD;
            }
            Strip strip = s.strips.get(i);
            List<Set<Integer>> shown = new ArrayList<>();
            strip.looks().forEach(l -> shown.add(l.in()));
            for (int first = 0; first + n <= 4; first++) {
                boolean over = false;
                for (int look = first; look + 1 < first + n; look++) {
                    over |= look + 1 == strip.torn();
                }
                if (!over && shown.subList(first, first + n).equals(row(n, row))) {
                    return first;
                }
            }
            return NONE;
        }

        static boolean hatHolds(int one, int next) {
            return one == NONE || next == NONE || one == next;
        }

        int together(int what) {
            if (what != 0 && what != 1) {
                return BAD;
            }
            List<Strip> torn = s.strips.stream().filter(t -> t.torn() > 0).toList();
            int[] answer = new int[2];
            put(torn, 0, 0, 0, answer);
            return answer[what];
        }

        static void put(List<Strip> torn, int upper, int used, int done, int[] answer) {
            if (upper == torn.size()) {
                answer[0] = Math.max(answer[0], done);
                answer[1] += done == torn.size() ? 1 : 0;
                return;
            }
            put(torn, upper + 1, used, done, answer);
            Strip up = torn.get(upper);
            for (int j = 0; j < torn.size(); j++) {
                List<Look> lower = torn.get(j).looks().subList(torn.get(j).torn(), 4);
                if ((used & 1 << j) == 0 && up.torn() + lower.size() == 4
                    && hatHolds(up.looks().get(up.torn() - 1).hat(), lower.get(0).hat())) {
                    put(torn, upper + 1, used | 1 << j, done + 1, answer);
                }
            }
        }

        static void rows(List<Strip> strips, List<Integer> row, List<List<Integer>> all) {
            if (row.size() == strips.size()) {
                boolean holds = true;
                for (int i = 0; i + 1 < row.size(); i++) {
                    holds &= hatHolds(strips.get(row.get(i)).looks().get(3).hat(), strips.get(row.get(i + 1)).looks().get(0).hat());
                }
                if (holds) {
                    all.add(new ArrayList<>(row));
                }
                return;
            }
            for (int i = 0; i < strips.size(); i++) {
                if (!row.contains(i)) {
                    row.add(i);
                    rows(strips, row, all);
                    row.remove(row.size() - 1);
                }
            }
        }

        int orders() {
            if (s.strips.size() > 6) {
                return LATE;
            }
            List<List<Integer>> all = new ArrayList<>();
            rows(s.strips, new ArrayList<>(), all);
            return all.size();
        }

        int orderAt(int i) {
            if (noStrip(i)) {
                return UNKNOWN;
            }
            if (s.strips.size() > 6) {
                return LATE;
            }
            List<List<Integer>> all = new ArrayList<>();
            rows(s.strips, new ArrayList<>(), all);
            Set<Integer> places = new HashSet<>();
            all.forEach(row -> places.add(row.indexOf(i)));
            return bits(places);
        }

        boolean onOtherNear(int p, int b, int minute) {
            for (Strip strip : s.strips) {
                for (Look l : strip.looks()) {
                    boolean near = l.minute() == minute || Math.abs(l.minute() - minute) < walk;
                    if (strip.booth() != b && near && l.in().contains(p)) {
                        return true;
                    }
                }
            }
            return false;
        }

        int forgery(int b, int m, int row) {
            if (noBooth(b)) {
                return UNKNOWN;
            }
            if (m < 0 || m > 999 || row(4, row) == null) {
                return BAD;
            }
            int at = m;
            for (int i = 0; i < 4; i++) {
                Set<Integer> set = row(4, row).get(i);
                if (!booths.get(b).flashes(at)) {
                    return i;
                }
                for (Strip strip : s.strips) {
                    for (Look l : strip.looks()) {
                        if (strip.booth() == b && l.minute() == at && !l.in().equals(set)) {
                            return i;
                        }
                    }
                }
                for (int p : set) {
                    if (onOtherNear(p, b, at)) {
                        return i;
                    }
                }
                do {
                    at++;
                } while (!booths.get(b).flashes(at));
            }
            return NONE;
        }

        int toSit(int b, int row) {
            if (noBooth(b)) {
                return UNKNOWN;
            }
            List<Set<Integer>> sets = row(4, row);
            if (sets == null) {
                return BAD;
            }
            for (Set<Integer> set : sets) {
                if (set.size() > 4 || set.stream().anyMatch(p -> p >= people.size())) {
                    return BAD;
                }
            }
            int steps = 0;
            int from = bits(s.in(b));
            for (Set<Integer> set : sets) {
                steps += stepsBetween(from, bits(set));
                from = bits(set);
            }
            return steps;
        }

        /** One step in or out at a time, never more than four in it. */
        static int stepsBetween(int from, int to) {
            int[] far = new int[32];
            Arrays.fill(far, -1);
            far[from] = 0;
            Deque<Integer> next = new ArrayDeque<>(List.of(from));
            while (far[to] < 0) {
                int set = next.removeFirst();
                for (int p = 0; p < 5; p++) {
                    int then = set ^ 1 << p;
                    if (far[then] < 0 && Integer.bitCount(then) <= 4) {
                        far[then] = far[set] + 1;
                        next.addLast(then);
                    }
                }
            }
            return far[to];
        }

        int between(int p, int m) {
            if (noPerson(p)) {
                return UNKNOWN;
            }
            if (m < 0 || m > 999) {
                return BAD;
            }
            int where = 4;
            for (Strip strip : s.strips) {
                for (Look l : strip.looks()) {
                    where &= l.minute() == m && l.in().contains(p) ? 0 : 4;
                }
            }
            for (int b = 0; b < booths.size(); b++) {
                boolean without = false;
                for (Strip strip : s.strips) {
                    for (Look l : strip.looks()) {
                        without |= strip.booth() == b && l.minute() == m && !l.in().contains(p);
                    }
                }
                where += without || onOtherNear(p, b, m) ? 0 : 1 << b;
            }
            return where;
        }

        int most(int b, int m) {
            if (noBooth(b)) {
                return UNKNOWN;
            }
            if (m < 0 || m > 999) {
                return BAD;
            }
            int looks = s.begun.get(b).size();
            int ended = 0;
            for (int at = s.minute; at <= m; at++) {
                if (booths.get(b).flashes(at)) {
                    looks++;
                    if (looks == 4) {
                        ended++;
                        looks = 0;
                    }
                }
            }
            return ended;
        }

        int eyes(int p, int what) {
            if (noPerson(p)) {
                return UNKNOWN;
            }
            int n = 0;
            for (Strip strip : s.strips) {
                for (Look l : strip.looks()) {
                    n += (what == 0 ? l.in() : l.blinks()).contains(p) ? 1 : 0;
                }
            }
            return what != 0 && what != 1 ? BAD : n;
        }

        long whose(int p, int n, int k, boolean upper) {
            if (noPerson(p)) {
                return UNKNOWN;
            }
            if (n < 1 || n > 8 || k < 0 || k > n) {
                return BAD;
            }
            BigInteger all = BigInteger.ZERO;
            BigInteger its = BigInteger.ZERO;
            for (int i = 0; i < people.size(); i++) {
                BigInteger one = BigInteger.valueOf(people.get(i)).pow(k).multiply(BigInteger.valueOf(10 - people.get(i)).pow(n - k));
                all = all.add(one);
                its = i == p ? one : its;
            }
            if (all.signum() == 0) {
                return LATE;
            }
            BigInteger by = its.gcd(all);
            return (upper ? its : all).divide(by).longValueExact();
        }

        long open(int b, int k, boolean upper) {
            if (noBooth(b)) {
                return UNKNOWN;
            }
            if (k < 0 || k > 5) {
                return BAD;
            }
            long[] ways = new long[7];
            ways[0] = 1;
            long all = 1;
            for (int p : s.in(b)) {
                int e = people.get(p);
                for (int n = 5; n >= 0; n--) {
                    ways[n] = ways[n] * e + (n > 0 ? ways[n - 1] * (10 - e) : 0);
                }
                all *= 10;
            }
            long good = Arrays.stream(ways, k, 7).sum();
            long by = BigInteger.valueOf(good).gcd(BigInteger.valueOf(all)).longValueExact();
            return (upper ? good : all) / by;
        }

        int keep(int slot) {
            if (slot < 0 || slot > 1) {
                return UNKNOWN;
            }
            kept[slot] = s.copy();
            return s.minute;
        }

        int again(int slot) {
            if (slot < 0 || slot > 1) {
                return UNKNOWN;
            }
            if (kept[slot] == null) {
                return LATE;
            }
            s = kept[slot].copy();
            acts.clear();
            return s.minute;
        }
    }

    private static int wrong = 0;
    private static final int[] asked = new int[33];
    private static final int[] notRefused = new int[33];

    private final Random draw;
    private final StripsOfFour x = new StripsOfFour();
    private final Model model = new Model();
    private final StringBuilder calls = new StringBuilder();
    private int made = 0;

    private ModelTest(int run) {
        draw = new Random(run);
    }

    private void due(int promise, String call, long got, long want) {
        made++;
        asked[promise]++;
        notRefused[promise] += want >= 0 || want == NONE ? 1 : 0;
        calls.append(call).append(' ');
        if (got != want) {
            wrong++;
            System.out.println(calls + "answered " + got + ", due is " + want);
        }
    }

    private int upTo(int most) {
        return draw.nextInt(most + 1);
    }

    /** Mostly from 0 to the one told, now and then beside it or far off. */
    private int near(int most) {
        int kind = draw.nextInt(30);
        if (kind == 0) {
            return -1;
        }
        if (kind == 1) {
            return most + 1;
        }
        if (kind == 2) {
            return draw.nextInt();
        }
        return upTo(Math.max(0, most));
    }

    private void write(String text) {
        due(3, "wipe()", x.wipe(), model.wipe());
        for (int i = 0; i < text.length(); i++) {
            int letter = text.charAt(i);
            due(2, "write(" + letter + ")", x.write(letter), model.write(letter));
        }
        due(4, "fault()", x.fault(), model.fault());
    }

    private String drawnFair() {
        StringBuilder t = new StringBuilder("B").append(upTo(draw.nextInt(3) == 0 ? 9 : 3));
        int booths = draw.nextInt(10) == 0 ? upTo(2) : 1 + upTo(1);
        int people = draw.nextInt(10) == 0 ? upTo(5) : 2 + upTo(3);
        while (booths + people > 0) {
            if (upTo(booths + people - 1) < booths) {
                t.append('S').append(upTo(3)).append(1 + upTo(draw.nextInt(5) == 0 ? 8 : 1));
                booths--;
            } else {
                t.append('P').append(draw.nextInt(3) == 0 ? 0 : upTo(9));
                people--;
            }
        }
        return t.toString();
    }

    private String drawnFault() {
        StringBuilder t = new StringBuilder(drawnFair());
        int kind = draw.nextInt(3);
        if (kind == 0) {
            t.setLength(upTo(t.length()));
        } else if (kind == 1) {
            t.setCharAt(upTo(t.length() - 1), "BSP0159/:x".charAt(upTo(9)));
        } else {
            t.append("SP1").append(drawnFair());
        }
        return t.toString();
    }

    private int drawnRow(int n) {
        if (draw.nextInt(25) == 0) {
            return draw.nextInt();
        }
        int row = 0;
        Strip strip = model.s.strips.isEmpty() ? null : model.s.strips.get(upTo(model.s.strips.size() - 1));
        int from = strip == null ? 0 : upTo(Math.max(0, 4 - n));
        for (int i = 0; i < n; i++) {
            boolean drawn = strip == null || from + i > 3 || draw.nextInt(12) == 0;
            int set = drawn ? upTo((1 << Math.min(5, model.people.size())) - 1) : Model.bits(strip.looks().get(from + i).in());
            row = row * 100 + set;
        }
        return draw.nextInt(25) == 0 ? row + 100 * upTo(40) : row;
    }

    private void callFair(int kind) {
        if (kind == 0) {
            write(draw.nextInt(3) == 0 ? drawnFair() : drawnFault());
            if (draw.nextInt(3) == 0) {
                due(5, "fair()", x.fair(), model.fair());
            }
        } else if (kind == 1) {
            int letter = near(255);
            due(2, "write(" + letter + ")", x.write(letter), model.write(letter));
            due(4, "fault()", x.fault(), model.fault());
        } else {
            long v = draw.nextLong();
            due(11, "seed(" + v + ")", x.seed(v), model.seed(v));
        }
    }

    private void callTold() {
        int what = near(9);
        due(6, "about(" + what + ")", x.about(what), model.about(what));
        int b = near(model.booths.size() - 1);
        what = near(4);
        due(7, "booth(" + b + ", " + what + ")", x.booth(b, what), model.booth(b, what));
        int p = near(model.people.size() - 1);
        what = near(3);
        due(8, "person(" + p + ", " + what + ")", x.person(p, what), model.person(p, what));
        int i = near(model.s.strips.size() - 1);
        due(9, "strip(" + i + ", " + what + ")", x.strip(i, what), model.strip(i, what));
        int look = near(3);
        due(10, "look(" + i + ", " + look + ", " + what + ")", x.look(i, look, what), model.look(i, look, what));
    }

    private void callAct() {
        int kind = draw.nextInt(40);
        int p = near(model.people.size() - 1);
        int b = near(model.booths.size() - 1);
        if (kind < 5) {
            due(12, "enter(" + p + ", " + b + ")", x.enter(p, b), model.enter(p, b));
        } else if (kind < 7) {
            due(13, "leave(" + p + ")", x.leave(p), model.leave(p));
        } else if (kind < 12) {
            due(14, "hat(" + p + ")", x.hat(p), model.hat(p));
        } else if (kind < 33) {
            due(15, "minute()", x.minute(), model.minute());
        } else if (kind < 34) {
            due(16, "stuck()", x.stuck(), model.stuck());
        } else if (kind < 37) {
            int i = near(model.s.strips.size() - 1);
            int k = near(3);
            due(17, "tear(" + i + ", " + k + ")", x.tear(i, k), model.tear(i, k));
        } else if (kind < 38) {
            due(18, "day()", x.day(), model.day());
        } else {
            for (int n = draw.nextInt(8) == 0 ? 14 : 1; n > 0; n--) {
                due(19, "undo()", x.undo(), model.undo());
            }
        }
    }

    private void callStrips(int kind) {
        int b = near(model.booths.size() - 1);
        int i = near(model.s.strips.size() - 1);
        int m = draw.nextInt(8) == 0 ? near(999) : near(model.s.minute + 3);
        int what = near(1);
        if (kind == 0) {
            int n = draw.nextInt(20) == 0 ? near(5) : 1 + upTo(3);
            int row = drawnRow(Math.max(1, Math.min(4, n)));
            due(20, "found(" + i + ", " + n + ", " + row + ")", x.found(i, n, row), model.found(i, n, row));
        } else if (kind == 1) {
            due(21, "together(" + what + ")", x.together(what), model.together(what));
        } else if (kind == 2) {
            due(22, "orders()", x.orders(), model.orders());
        } else if (kind == 7) {
            due(23, "orderAt(" + i + ")", x.orderAt(i), model.orderAt(i));
        } else if (kind == 3) {
            int row = drawnRow(4);
            due(24, "forgery(" + b + ", " + m + ", " + row + ")", x.forgery(b, m, row), model.forgery(b, m, row));
            int at = told(b, row);
            due(24, "forgery(" + b + ", " + at + ", " + row + ")", x.forgery(b, at, row), model.forgery(b, at, row));
        } else if (kind == 4) {
            int row = drawnRow(4);
            due(25, "toSit(" + b + ", " + row + ")", x.toSit(b, row), model.toSit(b, row));
        } else if (kind == 5) {
            int p = near(model.people.size() - 1);
            due(26, "between(" + p + ", " + m + ")", x.between(p, m), model.between(p, m));
        } else {
            int to = draw.nextBoolean() ? near(999) : m;
            due(27, "most(" + b + ", " + to + ")", x.most(b, to), model.most(b, to));
        }
    }

    /** The minute of a strip that shows a row, so that many told strips can be. */
    private int told(int b, int row) {
        for (Strip strip : model.s.strips) {
            List<Set<Integer>> shown = new ArrayList<>();
            strip.looks().forEach(l -> shown.add(l.in()));
            if (shown.equals(Model.row(4, row)) && strip.booth() == b) {
                return strip.looks().get(0).minute();
            }
        }
        return model.noBooth(b) ? 0 : model.booths.get(b).first();
    }

    private void callEyes(int kind) {
        int p = near(model.people.size() - 1);
        boolean upper = draw.nextBoolean();
        if (kind == 0) {
            int what = near(1);
            due(28, "eyes(" + p + ", " + what + ")", x.eyes(p, what), model.eyes(p, what));
        } else if (kind == 1) {
            int n = near(8);
            int k = near(Math.max(0, Math.min(n, 8)));
            due(29, "whose(" + p + ", " + n + ", " + k + ", " + upper + ")", x.whose(p, n, k, upper), model.whose(p, n, k, upper));
        } else {
            int b = near(model.booths.size() - 1);
            int k = near(5);
            due(30, "open(" + b + ", " + k + ", " + upper + ")", x.open(b, k, upper), model.open(b, k, upper));
        }
    }

    private void callSlots() {
        int slot = near(1);
        if (draw.nextInt(3) > 0) {
            due(31, "keep(" + slot + ")", x.keep(slot), model.keep(slot));
        } else {
            due(32, "again(" + slot + ")", x.again(slot), model.again(slot));
        }
    }

    private void run() {
        if (draw.nextInt(20) > 0) {
            write(drawnFair());
            due(5, "fair()", x.fair(), model.fair());
        }
        while (made < LAST_STEP_FROM && wrong == 0) {
            int kind = draw.nextInt(100);
            if (kind == 0) {
                callFair(draw.nextInt(12) == 0 ? 0 : 1 + upTo(1));
            } else if (kind < 15) {
                callTold();
            } else if (kind < 70) {
                callAct();
            } else if (kind < 88) {
                callStrips(upTo(7));
            } else if (kind < 97) {
                callEyes(upTo(2));
            } else {
                callSlots();
            }
        }
    }

    public static void main(String[] args) {
        for (int run = 0; run < RUNS && wrong == 0; run++) {
            new ModelTest(run).run();
        }
        long all = 0;
        for (int promise = 2; promise < 33; promise++) {
            all += asked[promise];
            // a run of calls that are all refused would tell nothing
            if (wrong == 0 && notRefused[promise] * 5 < asked[promise]) {
                wrong++;
                System.out.println("promise " + promise + ": only " + notRefused[promise] + " of " + asked[promise] + " calls not refused");
            }
        }
        System.out.println(wrong == 0 ? all + " answers, all as the model's" : "not as the model's");
        if (wrong != 0) {
            System.exit(1);
        }
    }
}
