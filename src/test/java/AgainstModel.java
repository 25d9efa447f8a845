import java.util.ArrayList;
import java.util.Collections;
import java.util.HashMap;
import java.util.HashSet;
import java.util.List;
import java.util.Map;
import java.util.Random;
import java.util.Set;
import java.util.TreeSet;

/** Long runs of calls, always the same ones, each answered by a slow model written from the words of the document. */
public final class AgainstModel {
    private static final int RUNS = 300, CALLS = 460;

    private static int wrong = 0;
    private static int calls = 0;

    public static void main(String[] args) {
        for (int run = 0; run < RUNS && wrong < 20; run++) {
            new Run(run).play();
        }
        System.out.println(calls + " calls against the model, " + wrong + " wrong");
        if (wrong != 0) System.exit(1);
    }

    private static final class Run {
        private final int number;
        private final Random dice;
        private final OneWorse x = new OneWorse();
        private final Model model = new Model();
        private final int density;
        private final boolean odd;
        private int made = 0;

        Run(int number) {
            this.number = number;
            dice = new Random(1000 + number);
            density = dice.nextInt(5);
            odd = dice.nextInt(3) == 0;
        }

        void play() {
            prepare();
            while (made < CALLS) call();
        }

        /** A book and men to begin with: from hardly a step to nearly all. */
        private void prepare() {
            int steps = new int[] {2, 8, 20, 45, 100}[density];
            for (int i = 0; i < steps; i++) step(dice.nextInt(10), dice.nextInt(10), true);
            for (int i = dice.nextInt(4); i > 0; i--) thereAndBack(dice.nextInt(10), dice.nextInt(10));
            for (int m = 0; m < 5; m++) {
                if (dice.nextBoolean()) man(m, 1, bits(10));
                if (dice.nextBoolean()) man(m, 0, bits(6));
            }
            for (int i = 0; i < 10; i++) {
                if (dice.nextInt(3) == 0) needs(i, 1 << dice.nextInt(6));
            }
        }

        private void thereAndBack(int one, int two) {
            step(one, two, true);
            step(two, one, true);
        }

        private int bits(int n) {
            int few = dice.nextInt(1 << n);
            return dice.nextBoolean() ? few : few | dice.nextInt(1 << n);
        }

        /** A number of 0 to n - 1; in odd runs at times another one. */
        private int number(int n) {
            if (!odd || dice.nextInt(12) != 0) return dice.nextInt(n);
            return new int[] {-1, n, n + 1, -2, Integer.MAX_VALUE, Integer.MIN_VALUE, 64, 1024}[dice.nextInt(8)];
        }

        private void due(String call, int got, int want) {
            calls++;
            made++;
            if (got == want) return;
            wrong++;
            System.out.println("run " + number + ": " + call + " answered " + got + ", due is " + want);
        }

        private void step(int from, int to, boolean is) {
            due("step " + from + " " + to + " " + is, x.step(from, to, is), model.step(from, to, is));
        }

        private void man(int m, int what, int v) {
            due("man " + m + " " + what + " " + v, x.man(m, what, v), model.man(m, what, v));
        }

        private void needs(int insult, int traits) {
            due("needs " + insult + " " + traits, x.needs(insult, traits), model.needs(insult, traits));
        }

        private void call() {
            switch (dice.nextInt(20)) {
                case 0 -> text(stepsText());
                case 1, 2 -> text(quarrelText());
                case 3 -> step(number(10), number(10), dice.nextBoolean());
                case 4 -> needs(number(10), dice.nextBoolean() ? 0 : number(64));
                case 5 -> man(number(5), number(2), odd ? number(1024) : bits(6));
                case 6 -> fitAndSafe();
                case 7, 8 -> match();
                case 9, 10 -> middle();
                case 11 -> last();
                case 12 -> sent();
                case 13 -> worth();
                case 14 -> crowd();
                case 15 -> rings();
                case 16 -> ladder();
                case 17 -> between();
                case 18 -> images();
                default -> told();
            }
        }

        private void text(String text) {
            if (dice.nextInt(3) != 0) due("wipe", x.wipe(), model.wipe());
            for (int i = 0; i < text.length(); i++) {
                due("say " + text.charAt(i), x.say(text.charAt(i)), model.say(text.charAt(i)));
            }
            if (odd) {
                int sign = number(128);
                due("say " + sign, x.say(sign), model.say(sign));
            }
            for (int what = 0; what < 2; what++) {
                due("fault " + what + " of " + model.pad, x.fault(what), model.fault(what));
                due("judge " + what + " of " + model.pad, x.judge(what), model.judge(what));
            }
            int how = number(2);
            due("fault " + how, x.fault(how), model.fault(how));
            due("judge " + how, x.judge(how), model.judge(how));
            if (dice.nextInt(4) == 0) due("steps", x.steps(), model.steps());
        }

        private String stepsText() {
            StringBuilder text = new StringBuilder();
            int length = 1 + dice.nextInt(14);
            for (int i = 0; i < length; i++) {
                text.append((char) ('a' + dice.nextInt(10)));
                text.append(dice.nextInt(4) == 0 ? ',' : '>');
            }
            if (dice.nextInt(4) != 0) text.setLength(text.length() - 1);
            return spoilt(text);
        }

        private String quarrelText() {
            StringBuilder text = new StringBuilder();
            int length = 1 + dice.nextInt(8);
            int speaker = -1;
            int insult = dice.nextInt(10);
            for (int i = 0; i < length; i++) {
                int next = dice.nextInt(5);
                if (next == speaker && dice.nextInt(10) != 0) next = (next + 1) % 5;
                speaker = next;
                text.append((char) ('0' + speaker)).append((char) ('a' + insult));
                insult = dice.nextInt(10);
                for (int tries = 0; tries < 8 && !model.step[text.charAt(text.length() - 1) - 'a'][insult]; tries++) {
                    insult = dice.nextInt(10);
                }
            }
            return spoilt(text);
        }

        private String spoilt(StringBuilder text) {
            if (dice.nextInt(4) == 0 && text.length() > 0) {
                text.setCharAt(dice.nextInt(text.length()), "abjk>,0145/!~A".charAt(dice.nextInt(14)));
            }
            return text.toString();
        }

        private void fitAndSafe() {
            int m = number(5);
            due("fit " + m, x.fit(m), model.fit(m));
            due("safe " + m, x.safe(m), model.safe(m));
        }

        private void match() {
            int m = number(5), o = number(5);
            for (int what = 0; what < 3; what++) {
                due("match " + m + " " + o + " " + what, x.match(m, o, what), model.match(m, o, what));
            }
            int what = number(3);
            due("match " + m + " " + o + " " + what, x.match(m, o, what), model.match(m, o, what));
        }

        private void middle() {
            int m = number(5), o = number(5), i = number(10), f = number(1024);
            if (dice.nextInt(8) != 0) f |= 1 << i;
            if (dice.nextBoolean()) f &= dice.nextInt(1024) | 1 << i;
            int w = number(3);
            for (int what : new int[] {0, 1, 2, w}) {
                due("middle " + m + " " + o + " " + i + " " + f + " " + what,
                        x.middle(m, o, i, f, what), model.middle(m, o, i, f, what));
            }
        }

        private void last() {
            int m = number(5), o = number(5), w = number(2);
            for (int what : new int[] {0, 1, w}) {
                due("last " + m + " " + o + " " + what, x.last(m, o, what), model.last(m, o, what));
            }
            int i = number(10);
            due("high " + i, x.high(i), model.high(i));
        }

        private void sent() {
            int m = number(5);
            due("sent " + m + " true", x.sent(m, true), model.sent(m, true));
            due("sent " + m + " false", x.sent(m, false), model.sent(m, false));
        }

        private void worth() {
            int i = number(10), m = number(5);
            due("worth " + i + " " + m, x.worth(i, m), model.worth(i, m));
        }

        private void crowd() {
            int men = number(32), w = number(2);
            for (int what : new int[] {0, 1, w}) {
                due("crowd " + men + " " + what, x.crowd(men, what), model.crowd(men, what));
            }
        }

        private void rings() {
            for (int what : new int[] {0, 1, number(2)}) {
                due("rings " + what, x.rings(what), model.rings(what));
            }
        }

        private void ladder() {
            int many = model.ladder(-1);
            due("ladder -1", x.ladder(-1), many);
            for (int i = 0; i <= many; i++) due("ladder " + i, x.ladder(i), model.ladder(i));
            int i = odd ? number(5) : -2;
            due("ladder " + i, x.ladder(i), model.ladder(i));
        }

        private void between() {
            int f = number(10), t = number(10), k = number(5);
            int many = model.between(f, t, k, -1);
            due("between " + f + " " + t + " " + k + " -1", x.between(f, t, k, -1), many);
            for (int i : new int[] {0, 1, many / 2, many - 1, many, -2}) {
                due("between " + f + " " + t + " " + k + " " + i, x.between(f, t, k, i), model.between(f, t, k, i));
            }
        }

        private void images() {
            int n = number(2);
            switch (dice.nextInt(3)) {
                case 0 -> due("image " + n, x.image(n), model.image(n));
                case 1 -> due("restore " + n, x.restore(n), model.restore(n));
                default -> due("join " + n, x.join(n), model.join(n));
            }
        }

        private void told() {
            for (int what = -2; what < 55; what++) due("told " + what, x.told(what), model.told(what));
        }
    }

    /** The document, told slowly. */
    private static final class Model {
        private static final int NONE = -6, UNKNOWN = -1, OUTSIDE = -2, STATE = -3, FULL = -4, NO = -5;

        private String pad = "";
        private boolean[][] step = new boolean[10][10];
        private int[] needs = new int[10];
        private int[] traits = {63, 63, 63, 63, 63};
        private int[] knows = {1023, 1023, 1023, 1023, 1023};
        private final Model[] images = new Model[2];
        private final Map<String, List<Integer>> ladders = new HashMap<>();

        private static boolean insult(int i) {
            return i >= 0 && i <= 9;
        }

        private static boolean man(int m) {
            return m >= 0 && m <= 4;
        }

        private static boolean from(int v, int a, int b) {
            return a <= v && v <= b;
        }

        int say(int sign) {
            if (!from(sign, 33, 126)) return OUTSIDE;
            if (pad.length() == 40) return FULL;
            pad += (char) sign;
            return pad.length();
        }

        int wipe() {
            int n = pad.length();
            pad = "";
            return n;
        }

        private static boolean valid(String text, int how) {
            if (how == 0) {
                if (!text.matches("[a-j](>[a-j])+(,[a-j](>[a-j])+)*")) return false;
                for (char c = 'a'; c <= 'j'; c++) {
                    if (text.contains(c + ">" + c)) return false;
                }
                return true;
            }
            if (!text.matches("([0-4][a-j])+")) return false;
            for (int i = 2; i < text.length(); i += 2) {
                if (text.charAt(i) == text.charAt(i - 2)) return false;
            }
            return true;
        }

        private static boolean canBecomeValid(String text, int how) {
            for (String more : new String[] {"", "a", "b", ">a", ">b", "a>b", "b>a", "0a", "1a"}) {
                if (valid(text + more, how)) return true;
            }
            return false;
        }

        int fault(int how) {
            if (!from(how, 0, 1)) return OUTSIDE;
            for (int n = 1; n <= pad.length(); n++) {
                if (!canBecomeValid(pad.substring(0, n), how)) return n - 1;
            }
            return valid(pad, how) ? NONE : pad.length();
        }

        int steps() {
            if (!valid(pad, 0)) return NO;
            for (String row : pad.split(",")) {
                String[] one = row.split(">");
                for (int i = 1; i < one.length; i++) step[one[i - 1].charAt(0) - 'a'][one[i].charAt(0) - 'a'] = true;
            }
            pad = "";
            return told(1);
        }

        int step(int from, int to, boolean is) {
            if (!insult(from) || !insult(to) || from == to) return UNKNOWN;
            int was = step[from][to] ? 1 : 0;
            step[from][to] = is;
            return was;
        }

        int needs(int i, int v) {
            if (!insult(i)) return UNKNOWN;
            if (!from(v, 0, 63)) return OUTSIDE;
            int was = needs[i];
            needs[i] = v;
            return was;
        }

        int man(int m, int what, int v) {
            if (!man(m)) return UNKNOWN;
            if (!from(what, 0, 1) || !from(v, 0, what == 0 ? 63 : 1023)) return OUTSIDE;
            int[] row = what == 0 ? traits : knows;
            int was = row[m];
            row[m] = v;
            return was;
        }

        private boolean fits(int i, int m) {
            return (traits[m] & needs[i]) == needs[i];
        }

        private boolean known(int i, int m) {
            return (knows[m] & 1 << i) != 0;
        }

        int fit(int m) {
            if (!man(m)) return UNKNOWN;
            int bits = 0;
            for (int i = 0; i < 10; i++) if (fits(i, m)) bits += 1 << i;
            return bits;
        }

        /** Place and why of the first one that was none, or null. */
        private int[] judged(String quarrel) {
            int n = quarrel.length() / 2;
            for (int p = 0; p < n; p++) {
                int m = quarrel.charAt(2 * p) - '0', i = quarrel.charAt(2 * p + 1) - 'a';
                Integer to = p > 0 ? Integer.valueOf(quarrel.charAt(2 * p - 2) - '0')
                        : n > 1 ? Integer.valueOf(quarrel.charAt(2) - '0') : null;
                TreeSet<Integer> why = new TreeSet<>();
                if (p > 0 && !step[quarrel.charAt(2 * p - 1) - 'a'][i]) why.add(1);
                if (quarrel.substring(0, 2 * p).indexOf((char) ('a' + i)) >= 0) why.add(2);
                if (to != null && !fits(i, to)) why.add(3);
                if (!known(i, m)) why.add(4);
                if (!why.isEmpty()) return new int[] {p, why.first()};
            }
            return null;
        }

        int judge(int what) {
            if (!from(what, 0, 1)) return OUTSIDE;
            if (!valid(pad, 1)) return NO;
            int[] judged = judged(pad);
            return judged == null ? NONE : judged[what];
        }

        /** who pays, how many more are said, with which the mover goes on. */
        private int[] play(int m, int o, int ahead, Set<Integer> fallen, Map<String, int[]> known) {
            String key = m + " " + ahead + " " + fallen;
            if (known.containsKey(key)) return known.get(key);
            int[] best = null;
            for (int i = 0; i < 10; i++) {
                if (fallen.contains(i) || !known(i, m) || !fits(i, o) || ahead >= 0 && !step[ahead][i]) continue;
                Set<Integer> more = new TreeSet<>(fallen);
                more.add(i);
                int[] then = play(o, m, i, more, known);
                int[] mine = {then[0], then[1] + 1, i};
                if (best == null || better(mine, best, m)) best = mine;
            }
            if (best == null) best = new int[] {m, 0, NONE};
            known.put(key, best);
            return best;
        }

        private static boolean better(int[] one, int[] two, int m) {
            if (one[0] != two[0]) return two[0] == m;
            return one[0] == m ? one[1] > two[1] : one[1] < two[1];
        }

        int match(int m, int o, int what) {
            if (!man(m) || !man(o) || m == o) return UNKNOWN;
            if (!from(what, 0, 2)) return OUTSIDE;
            return play(m, o, -1, new TreeSet<>(), new HashMap<>())[what];
        }

        int middle(int m, int o, int i, int fallen, int what) {
            if (!man(m) || !man(o) || m == o || !insult(i)) return UNKNOWN;
            if (!from(fallen, 0, 1023) || (fallen & 1 << i) == 0 || !from(what, 0, 2)) return OUTSIDE;
            Set<Integer> fell = new TreeSet<>();
            for (int j = 0; j < 10; j++) if ((fallen & 1 << j) != 0) fell.add(j);
            return play(m, o, i, fell, new HashMap<>())[what];
        }

        /** The most that can be said, and the first of them. */
        private int[] longest(int m, int o, int ahead, Set<Integer> fallen, Map<String, int[]> known) {
            String key = m + " " + ahead + " " + fallen;
            if (known.containsKey(key)) return known.get(key);
            int[] best = {0, NONE};
            for (int i = 0; i < 10; i++) {
                if (fallen.contains(i) || !known(i, m) || !fits(i, o) || ahead >= 0 && !step[ahead][i]) continue;
                Set<Integer> more = new TreeSet<>(fallen);
                more.add(i);
                int n = 1 + longest(o, m, i, more, known)[0];
                if (n > best[0]) best = new int[] {n, i};
            }
            known.put(key, best);
            return best;
        }

        int last(int m, int o, int what) {
            if (!man(m) || !man(o) || m == o) return UNKNOWN;
            if (!from(what, 0, 1)) return OUTSIDE;
            return longest(m, o, -1, new TreeSet<>(), new HashMap<>())[what];
        }

        int high(int i) {
            if (!insult(i)) return UNKNOWN;
            Model all = new Model();
            all.step = step;
            return all.longest(0, 1, i, new TreeSet<>(List.of(i)), new HashMap<>())[0];
        }

        int sent(int m, boolean opens) {
            if (!man(m)) return UNKNOWN;
            int bits = 0;
            for (int o = 0; o < 5; o++) {
                if (o == m) continue;
                int pays = opens ? match(o, m, 0) : match(m, o, 0);
                if (pays != o) bits += 1 << o;
            }
            return bits;
        }

        int safe(int m) {
            if (!man(m)) return UNKNOWN;
            for (int i = 0; i < 10; i++) {
                for (int o = 0; o < 5; o++) {
                    if (o != m && known(i, o) && fits(i, m)) return 0;
                }
            }
            return 1;
        }

        private int unpaid(int m) {
            int n = 0;
            for (int o = 0; o < 5; o++) {
                if (o == m) continue;
                if (match(m, o, 0) != m) n++;
                if (match(o, m, 0) != m) n++;
            }
            return n;
        }

        int worth(int i, int m) {
            if (!insult(i) || !man(m)) return UNKNOWN;
            if (known(i, m)) return STATE;
            int before = unpaid(m);
            knows[m] += 1 << i;
            int after = unpaid(m);
            knows[m] -= 1 << i;
            return 100 + after - before;
        }

        /** All quarrels that go on from this one so that the rest speaks, until one is good. */
        private boolean someGood(String quarrel, Set<Integer> rest) {
            if (quarrel.length() > 2 && judged(quarrel) != null) return false;
            if (rest.isEmpty()) return quarrel.isEmpty() || judged(quarrel) == null;
            for (int m : rest) {
                Set<Integer> others = new TreeSet<>(rest);
                others.remove(m);
                for (char i = 'a'; i <= 'j'; i++) {
                    if (someGood(quarrel + m + i, others)) return true;
                }
            }
            return false;
        }

        private int days(Set<Integer> men, Map<Set<Integer>, Boolean> able) {
            if (men.isEmpty()) return 0;
            int best = NONE;
            List<Integer> list = new ArrayList<>(men);
            for (int bits = 1; bits < 1 << list.size(); bits++) {
                Set<Integer> day = new TreeSet<>(), rest = new TreeSet<>();
                for (int j = 0; j < list.size(); j++) ((bits & 1 << j) != 0 ? day : rest).add(list.get(j));
                if (!day.contains(list.get(0))) continue;
                if (!able.containsKey(day)) able.put(day, someGood("", day));
                if (!able.get(day)) continue;
                int n = days(rest, able);
                if (n != NONE && (best == NONE || n + 1 < best)) best = n + 1;
            }
            return best;
        }

        int crowd(int bits, int what) {
            if (!from(bits, 0, 31) || !from(what, 0, 1)) return OUTSIDE;
            Set<Integer> men = new TreeSet<>();
            for (int m = 0; m < 5; m++) if ((bits & 1 << m) != 0) men.add(m);
            if (what == 0) return someGood("", men) ? 1 : 0;
            return days(men, new HashMap<>());
        }

        private Set<Integer> reach(int i) {
            Set<Integer> seen = new HashSet<>();
            List<Integer> open = new ArrayList<>(List.of(i));
            while (!open.isEmpty()) {
                int now = open.remove(open.size() - 1);
                for (int j = 0; j < 10; j++) {
                    if (step[now][j] && seen.add(j)) open.add(j);
                }
            }
            return seen;
        }

        int rings(int what) {
            if (!from(what, 0, 1)) return OUTSIDE;
            int bits = 0;
            for (int i = 0; i < 10; i++) {
                if (what == 0 ? reach(i).contains(i) : reach(i).isEmpty()) bits += 1 << i;
            }
            return bits;
        }

        private int bestBack;
        private List<Integer> bestOrder;

        /**
         * All orders, the first by numbers first; only a strictly better one is taken. Steps of those
         * who are not placed yet to those who are will go back, and one of two who step to each other.
         */
        private void orders(List<Integer> placed, List<Integer> open, int back) {
            int pairs = 0;
            for (int i : open) {
                for (int j : open) if (i < j && step[i][j] && step[j][i]) pairs++;
            }
            if (back + pairs >= bestBack) return;
            if (open.isEmpty()) {
                bestBack = back;
                bestOrder = new ArrayList<>(placed);
                return;
            }
            for (int i : open) {
                List<Integer> ahead = new ArrayList<>(placed), rest = new ArrayList<>(open);
                ahead.add(i);
                rest.remove(Integer.valueOf(i));
                int more = 0;
                for (int j : rest) if (step[j][i]) more++;
                orders(ahead, rest, back + more);
            }
        }

        private List<Integer> struck() {
            String key = java.util.Arrays.deepToString(step);
            if (ladders.containsKey(key)) return ladders.get(key);
            bestBack = 1000;
            orders(List.of(), List.of(0, 1, 2, 3, 4, 5, 6, 7, 8, 9), 0);
            List<Integer> struck = new ArrayList<>();
            for (int later = 0; later < 10; later++) {
                for (int ahead = 0; ahead < later; ahead++) {
                    int from = bestOrder.get(later), to = bestOrder.get(ahead);
                    if (step[from][to]) struck.add(10 * from + to);
                }
            }
            Collections.sort(struck);
            ladders.put(key, struck);
            return struck;
        }

        int ladder(int i) {
            if (i == -1) return struck().size();
            return from(i, 0, struck().size() - 1) ? struck().get(i) : NONE;
        }

        private void ways(String soFar, int to, int k, List<Integer> found) {
            int now = soFar.charAt(soFar.length() - 1) - '0';
            if (k == 0) {
                if (step[now][to]) found.add(Integer.valueOf("1" + soFar.substring(1)));
                return;
            }
            for (int i = 9; i >= 0; i--) {
                if (i == to || soFar.indexOf('0' + i) >= 0 || !step[now][i]) continue;
                ways(soFar + i, to, k - 1, found);
            }
        }

        int between(int f, int t, int k, int i) {
            if (!insult(f) || !insult(t) || f == t) return UNKNOWN;
            if (!from(k, 0, 4)) return OUTSIDE;
            List<Integer> found = new ArrayList<>();
            ways("" + f, t, k, found);
            Collections.sort(found);
            if (i == -1) return found.size();
            return from(i, 0, found.size() - 1) ? found.get(i) : NONE;
        }

        private void take(Model other) {
            step = new boolean[10][];
            for (int i = 0; i < 10; i++) step[i] = other.step[i].clone();
            needs = other.needs.clone();
            traits = other.traits.clone();
            knows = other.knows.clone();
        }

        int image(int n) {
            if (!from(n, 0, 1)) return OUTSIDE;
            images[n] = new Model();
            images[n].take(this);
            return 1;
        }

        int restore(int n) {
            if (!from(n, 0, 1)) return OUTSIDE;
            if (images[n] == null) return STATE;
            take(images[n]);
            return 1;
        }

        int join(int n) {
            if (!from(n, 0, 1)) return OUTSIDE;
            if (images[n] == null) return STATE;
            for (int i = 0; i < 10; i++) {
                for (int j = 0; j < 10; j++) step[i][j] |= images[n].step[i][j];
            }
            return told(1);
        }

        int told(int what) {
            if (what == 0) return pad.length();
            if (what == 1) {
                int n = 0;
                for (boolean[] row : step) for (boolean is : row) n += is ? 1 : 0;
                return n;
            }
            if (from(what, 10, 19)) return needs[what - 10];
            if (from(what, 20, 24)) return traits[what - 20];
            if (from(what, 30, 34)) return knows[what - 30];
            if (from(what, 40, 49)) {
                int bits = 0;
                for (int j = 0; j < 10; j++) if (step[what - 40][j]) bits += 1 << j;
                return bits;
            }
            return OUTSIDE;
        }
    }
}
