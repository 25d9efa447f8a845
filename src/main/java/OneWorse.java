/** A town's insults: its book of steps, its men, their quarrels and matches. */
public final class OneWorse {
    public static final int NONE = -6, UNKNOWN = -1, OUTSIDE = -2, STATE = -3, FULL = -4, NO = -5;

    private static final int INSULTS = 10, MEN = 5, IMAGES = 2, MOST_BETWEEN = 4;
    private static final int EVERY_INSULT = 1023, EVERY_MAN = 31, EVERY_TRAIT = 63;
    private static final int FIRST_SIGN = 33, LAST_SIGN = 126;
    private static final int WORTH_BASE = 100;

    private final Pad pad;
    private final Town town;
    private final Town firstImage;
    private final Town secondImage;
    private final Contest contest;
    private final Crowd company;
    private final Order order;
    private final Ways ways;

    public OneWorse() {
        pad = new Pad();
        town = new Town();
        firstImage = new Town();
        secondImage = new Town();
        contest = new Contest(town);
        company = new Crowd(town);
        order = new Order(town);
        ways = new Ways(town);
    }

    // ---- 1 the book, men

    public int say(int sign) {
        if (!within(sign, FIRST_SIGN, LAST_SIGN)) return OUTSIDE;
        if (pad.isFull()) return FULL;
        pad.put(sign);
        return pad.size();
    }

    public int wipe() {
        int were = pad.size();
        pad.clear();
        return were;
    }

    public int fault(int how) {
        if (!within(how, 0, 1)) return OUTSIDE;
        return how == 0 ? pad.faultAsSteps() : pad.faultAsQuarrel();
    }

    public int steps() {
        if (pad.faultAsSteps() != NONE) return NO;
        for (int place = 2; place < pad.size(); place += 2) {
            if (pad.signAt(place - 1) == '>') {
                town.setStep(pad.insultAt(place - 2), pad.insultAt(place), true);
            }
        }
        pad.clear();
        return town.countSteps();
    }

    public int step(int from, int to, boolean is) {
        if (!isInsult(from) || !isInsult(to) || from == to) return UNKNOWN;
        int was = has(town.worseThan(from), to) ? 1 : 0;
        town.setStep(from, to, is);
        return was;
    }

    public int needs(int insult, int traits) {
        if (!isInsult(insult)) return UNKNOWN;
        if (!within(traits, 0, EVERY_TRAIT)) return OUTSIDE;
        int was = town.neededBy(insult);
        town.setNeeded(insult, traits);
        return was;
    }

    public int man(int man, int what, int v) {
        if (!isMan(man)) return UNKNOWN;
        if (!within(what, 0, 1)) return OUTSIDE;
        if (!within(v, 0, what == 0 ? EVERY_TRAIT : EVERY_INSULT)) return OUTSIDE;
        int was;
        if (what == 0) {
            was = town.traitsOf(man);
            town.setTraits(man, v);
        } else {
            was = town.knownTo(man);
            town.setKnown(man, v);
        }
        return was;
    }

    public int fit(int man) {
        if (!isMan(man)) return UNKNOWN;
        return town.fitting(man);
    }

    public int judge(int what) {
        if (!within(what, 0, 1)) return OUTSIDE;
        if (pad.faultAsQuarrel() != NONE) return NO;
        int said = pad.size() / 2;
        for (int turn = 0; turn < said; turn++) {
            int why = whyNone(turn);
            if (why != 0) return what == 0 ? turn : why;
        }
        return NONE;
    }

    // ---- 2 matches

    public int match(int man, int other, int what) {
        if (!areTwo(man, other)) return UNKNOWN;
        if (!within(what, 0, 2)) return OUTSIDE;
        int mine = town.sayable(man, other);
        contest.fight(mine, 0, mine, town.sayable(other, man), what == 0);
        return outcome(man, other, what);
    }

    public int middle(int man, int other, int insult, int fallen, int what) {
        if (!areTwo(man, other) || !isInsult(insult)) return UNKNOWN;
        if (!within(fallen, 0, EVERY_INSULT) || !has(fallen, insult)) return OUTSIDE;
        if (!within(what, 0, 2)) return OUTSIDE;
        int mine = town.sayable(man, other);
        int answers = mine & town.worseThan(insult) & ~fallen;
        contest.fight(answers, fallen, mine, town.sayable(other, man), what == 0);
        return outcome(man, other, what);
    }

    public int last(int man, int other, int what) {
        if (!areTwo(man, other)) return UNKNOWN;
        if (!within(what, 0, 1)) return OUTSIDE;
        int mine = town.sayable(man, other);
        contest.spin(mine, 0, mine, town.sayable(other, man));
        return what == 0 ? contest.spun() : contest.firstMove();
    }

    // ---- 3 sending, crowds

    public int sent(int man, boolean opens) {
        if (!isMan(man)) return UNKNOWN;
        int good = 0;
        for (int other = 0; other < MEN; other++) {
            if (other != man && comesOff(other, town.knownTo(other), man, opens)) good |= 1 << other;
        }
        return good;
    }

    public int safe(int man) {
        if (!isMan(man)) return UNKNOWN;
        int sayable = 0;
        for (int other = 0; other < MEN; other++) {
            if (other != man) sayable |= town.sayable(other, man);
        }
        return sayable == 0 ? 1 : 0;
    }

    public int worth(int insult, int man) {
        if (!isInsult(insult) || !isMan(man)) return UNKNOWN;
        int known = town.knownTo(man);
        if (has(known, insult)) return STATE;
        int more = goodMatches(man, known | 1 << insult) - goodMatches(man, known);
        return WORTH_BASE + more;
    }

    public int crowd(int men, int what) {
        if (!within(men, 0, EVERY_MAN) || !within(what, 0, 1)) return OUTSIDE;
        if (what == 1) return company.fewestDays(men);
        return company.isOneDayEnough(men) ? 1 : 0;
    }

    // ---- 4 rings

    public int rings(int what) {
        if (!within(what, 0, 1)) return OUTSIDE;
        return what == 0 ? order.inRings() : order.tops();
    }

    public int ladder(int i) {
        order.arrange();
        return i == -1 ? order.countStruck() : order.struck(i);
    }

    public int between(int from, int to, int k, int i) {
        if (!isInsult(from) || !isInsult(to) || from == to) return UNKNOWN;
        if (!within(k, 0, MOST_BETWEEN)) return OUTSIDE;
        ways.search(from, to, k, i);
        return i == -1 ? ways.count() : ways.wanted();
    }

    public int high(int insult) {
        if (!isInsult(insult)) return UNKNOWN;
        contest.spin(town.worseThan(insult), 1 << insult, EVERY_INSULT, EVERY_INSULT);
        return contest.spun();
    }

    public int image(int n) {
        if (!isImage(n)) return OUTSIDE;
        imageOf(n).copy(town);
        return 1;
    }

    public int restore(int n) {
        if (!isImage(n)) return OUTSIDE;
        if (!imageOf(n).isKept()) return STATE;
        town.copy(imageOf(n));
        return 1;
    }

    public int join(int n) {
        if (!isImage(n)) return OUTSIDE;
        if (!imageOf(n).isKept()) return STATE;
        town.addSteps(imageOf(n));
        return town.countSteps();
    }

    public int told(int what) {
        if (what == 0) return pad.size();
        if (what == 1) return town.countSteps();
        if (within(what, 10, 19)) return town.neededBy(what - 10);
        if (within(what, 20, 24)) return town.traitsOf(what - 20);
        if (within(what, 30, 34)) return town.knownTo(what - 30);
        if (within(what, 40, 49)) return town.worseThan(what - 40);
        return OUTSIDE;
    }

    // ---- what the calls share

    private static boolean within(int v, int least, int most) {
        return v >= least && v <= most;
    }

    private static boolean isInsult(int insult) {
        return within(insult, 0, INSULTS - 1);
    }

    private static boolean isMan(int man) {
        return within(man, 0, MEN - 1);
    }

    private static boolean areTwo(int man, int other) {
        return isMan(man) && isMan(other) && man != other;
    }

    private static boolean isImage(int n) {
        return within(n, 0, IMAGES - 1);
    }

    private static boolean has(int bits, int place) {
        return (bits >> place & 1) == 1;
    }

    private static int at(int[] row, int place) {
        return place >= 0 && place < row.length ? row[place] : 0;
    }

    private static void store(int[] row, int place, int v) {
        if (place >= 0 && place < row.length) row[place] = v;
    }

    private Town imageOf(int n) {
        return n == 0 ? firstImage : secondImage;
    }

    /** Why what was said at this turn of the quarrel on the pad was none; 0: it was good. */
    private int whyNone(int turn) {
        int man = pad.manAt(2 * turn);
        int insult = pad.insultAt(2 * turn + 1);
        if (turn > 0 && !has(town.worseThan(pad.insultAt(2 * turn - 1)), insult)) return 1;
        for (int earlier = 0; earlier < turn; earlier++) {
            if (pad.insultAt(2 * earlier + 1) == insult) return 2;
        }
        int hearer = turn > 0 ? pad.manAt(2 * turn - 2) : pad.manAt(2);
        if (isMan(hearer) && !has(town.fitting(hearer), insult)) return 3;
        return has(town.knownTo(man), insult) ? 0 : 4;
    }

    private int outcome(int man, int other, int what) {
        if (what == 0) return contest.moverPays() ? man : other;
        return what == 1 ? contest.howMany() : contest.firstMove();
    }

    /** Whether a man who knows these insults does not pay in a match with the other one. */
    private boolean comesOff(int man, int known, int other, boolean opens) {
        int mine = known & town.fitting(other);
        int his = town.sayable(other, man);
        if (opens) {
            contest.fight(mine, 0, mine, his, true);
            return !contest.moverPays();
        }
        contest.fight(his, 0, his, mine, true);
        return contest.moverPays();
    }

    private int goodMatches(int man, int known) {
        int good = 0;
        for (int other = 0; other < MEN; other++) {
            if (other == man) continue;
            if (comesOff(man, known, other, true)) good++;
            if (comesOff(man, known, other, false)) good++;
        }
        return good;
    }

    /** The signs said, and what texts they are. */
    private static final class Pad {
        private static final int ROOM = 40;

        private final int[] signs = new int[ROOM];
        private int size = 0;

        private int size() {
            return size;
        }

        private boolean isFull() {
            return size >= ROOM;
        }

        private void put(int sign) {
            if (size < 0 || size >= signs.length) return;
            signs[size] = sign;
            size++;
        }

        private void clear() {
            size = 0;
        }

        /** The sign at a place, 0 where there is none. */
        private int signAt(int place) {
            return place < size ? at(signs, place) : 0;
        }

        /** The insult at a place, -1 where there is none. */
        private int insultAt(int place) {
            int insult = signAt(place) - 'a';
            return isInsult(insult) ? insult : -1;
        }

        /** The man at a place, -1 where there is none. */
        private int manAt(int place) {
            int man = signAt(place) - '0';
            return isMan(man) ? man : -1;
        }

        private int faultAsSteps() {
            for (int place = 0; place < size; place++) {
                if (!standsInSteps(place)) return place;
            }
            boolean whole = size % 2 == 1 && signAt(size - 2) == '>';
            return whole ? NONE : size;
        }

        /** Rows put insults at even places, and between them > or , at odd ones. */
        private boolean standsInSteps(int place) {
            if (place % 2 == 0) {
                int insult = insultAt(place);
                boolean follows = signAt(place - 1) == '>';
                return insult >= 0 && !(follows && insultAt(place - 2) == insult);
            }
            if (signAt(place) == '>') return true;
            return signAt(place) == ',' && signAt(place - 2) == '>';
        }

        private int faultAsQuarrel() {
            for (int place = 0; place < size; place++) {
                if (!standsInQuarrel(place)) return place;
            }
            boolean whole = size > 0 && size % 2 == 0;
            return whole ? NONE : size;
        }

        private boolean standsInQuarrel(int place) {
            if (place % 2 == 1) return insultAt(place) >= 0;
            return manAt(place) >= 0 && manAt(place) != manAt(place - 2);
        }
    }

    /** What an image keeps: the book, what insults need, and the men. */
    private static final class Town {
        private final int[] worse = new int[INSULTS];
        private final int[] needed = new int[INSULTS];
        private final int[] traits = new int[MEN];
        private final int[] known = new int[MEN];
        private boolean kept = false;

        private Town() {
            for (int man = 0; man < MEN; man++) {
                store(traits, man, EVERY_TRAIT);
                store(known, man, EVERY_INSULT);
            }
        }

        private int worseThan(int insult) {
            return at(worse, insult);
        }

        private int neededBy(int insult) {
            return at(needed, insult);
        }

        private int traitsOf(int man) {
            return at(traits, man);
        }

        private int knownTo(int man) {
            return at(known, man);
        }

        private void setStep(int from, int to, boolean is) {
            if (!isInsult(from) || !isInsult(to)) return;
            int others = worseThan(from) & ~(1 << to);
            store(worse, from, is ? others | 1 << to : others);
        }

        private void setNeeded(int insult, int bits) {
            store(needed, insult, bits);
        }

        private void setTraits(int man, int bits) {
            store(traits, man, bits);
        }

        private void setKnown(int man, int bits) {
            store(known, man, bits);
        }

        private int fitting(int man) {
            int own = traitsOf(man);
            int bits = 0;
            for (int insult = 0; insult < INSULTS; insult++) {
                if ((neededBy(insult) & ~own) == 0) bits |= 1 << insult;
            }
            return bits;
        }

        /** What a man knows that fits the other one. */
        private int sayable(int man, int other) {
            return knownTo(man) & fitting(other);
        }

        private int countSteps() {
            int count = 0;
            for (int insult = 0; insult < INSULTS; insult++) {
                count += Integer.bitCount(worseThan(insult));
            }
            return count;
        }

        private void addSteps(Town from) {
            for (int insult = 0; insult < INSULTS; insult++) {
                store(worse, insult, worseThan(insult) | from.worseThan(insult));
            }
        }

        private void copy(Town from) {
            for (int insult = 0; insult < INSULTS; insult++) {
                store(worse, insult, from.worseThan(insult));
                store(needed, insult, from.neededBy(insult));
            }
            for (int man = 0; man < MEN; man++) {
                store(traits, man, from.traitsOf(man));
                store(known, man, from.knownTo(man));
            }
            kept = true;
        }

        private boolean isKept() {
            return kept;
        }
    }

    /**
     * Two who speak by turns, each from the insults he may say to the other one. A score is that of
     * him whose turn it is. In a fight: so many are said more, if he pays; WON less so many, if he
     * does not; so a higher one is what he wishes. In a spin, which both wish to last: so many more.
     */
    private static final class Contest {
        private static final int WON = 40, LEAST_WON = 20, SCORES = 64;

        private final Town town;
        /** By fallen insults and the last of them: the run, times SCORES, and the score. */
        private final int[] memo = new int[(EVERY_INSULT + 1) * INSULTS];
        private int run = 0;
        private boolean spinning = false;
        private int enough = 0;
        private int score = 0;
        private int chosen = NONE;

        private Contest(Town town) {
            this.town = town;
        }

        /** Both at their best; if only who pays is asked, the first move that wins will do. */
        private void fight(int moves, int fallen, int mine, int his, boolean onlyWho) {
            spinning = false;
            enough = onlyWho ? LEAST_WON : WON - 1;
            forget();
            score = best(moves, fallen, mine, his, 0);
        }

        private void spin(int moves, int fallen, int mine, int his) {
            spinning = true;
            forget();
            score = best(moves, fallen, mine, his, 0);
        }

        private void forget() {
            run++;
            chosen = NONE;
        }

        private boolean moverPays() {
            return score < LEAST_WON;
        }

        private int howMany() {
            return score < LEAST_WON ? score : WON - score;
        }

        private int spun() {
            return score;
        }

        private int firstMove() {
            return chosen;
        }

        /** The best score of him who may say one of these moves; so many were said in this run. */
        private int best(int moves, int fallen, int mine, int his, int said) {
            int best = 0;
            if (moves == 0 || said >= INSULTS) return best;
            int stop = spinning ? Integer.bitCount((mine | his) & ~fallen) : enough;
            for (int x = 0; x < INSULTS && best < stop; x++) {
                if (!has(moves, x)) continue;
                int mayBe = turned(afterwards(fallen | 1 << x, x, his, mine, said + 1));
                if (mayBe > best) {
                    best = mayBe;
                    if (said == 0) chosen = x;
                }
            }
            return best;
        }

        /** The score of him who must answer the last one that fell. */
        private int afterwards(int fallen, int last, int mine, int his, int said) {
            int slot = fallen * INSULTS + last;
            int noted = at(memo, slot);
            if (noted / SCORES == run) return noted % SCORES;
            int answers = town.worseThan(last) & mine & ~fallen;
            int found = best(answers, fallen, mine, his, said);
            store(memo, slot, run * SCORES + found);
            return found;
        }

        /** The score of him who has said one more, from the score of him who must answer it. */
        private int turned(int answering) {
            if (spinning) return answering + 1;
            if (answering < LEAST_WON) return WON - (answering + 1);
            return WON - answering + 1;
        }
    }

    /** Men who each speak once. */
    private static final class Crowd {
        private final Town town;
        private final int[] fitting = new int[MEN];
        /**
         * By the men who are still to speak and the man ahead of them: with which insults he may
         * speak there, if insults could fall twice. It spares long searches that can not end well.
         */
        private final int[] hope = new int[(EVERY_MAN + 1) * MEN];
        private final boolean[] able = new boolean[EVERY_MAN + 1];
        private final int[] fewest = new int[EVERY_MAN + 1];

        private Crowd(Town town) {
            this.town = town;
        }

        private boolean isOneDayEnough(int men) {
            prepare(men);
            return canSpeak(men);
        }

        private int fewestDays(int men) {
            prepare(men);
            for (int set = 0; set < able.length; set++) {
                if ((set & ~men) != 0) continue;
                able[set] = canSpeak(set);
                store(fewest, set, set == 0 ? 0 : fewestBySets(set));
            }
            return at(fewest, men);
        }

        /** The smaller sets' days are known already: one day's set, and the rest's days. */
        private int fewestBySets(int set) {
            int best = NONE;
            for (int day = 1; day <= set && day < able.length; day++) {
                if ((day & ~set) != 0 || !able[day]) continue;
                int days = at(fewest, set & ~day);
                if (days != NONE && (best == NONE || days + 1 < best)) best = days + 1;
            }
            return best;
        }

        private void prepare(int men) {
            for (int man = 0; man < MEN; man++) {
                store(fitting, man, town.fitting(man));
            }
            for (int rest = 0; rest <= EVERY_MAN; rest++) {
                if ((rest & ~men) == 0) hopeAheadOf(rest);
            }
        }

        private void hopeAheadOf(int rest) {
            int answers = 0;
            for (int next = 0; next < MEN; next++) {
                if (has(rest, next)) answers |= hopeful(rest & ~(1 << next), next);
            }
            for (int man = 0; man < MEN; man++) {
                if (has(rest, man)) continue;
                int good = rest == 0 ? EVERY_INSULT : leadingTo(answers & at(fitting, man));
                store(hope, rest * MEN + man, good & town.knownTo(man));
            }
        }

        private int leadingTo(int answers) {
            int bits = 0;
            for (int x = 0; x < INSULTS; x++) {
                if ((town.worseThan(x) & answers) != 0) bits |= 1 << x;
            }
            return bits;
        }

        private int hopeful(int rest, int man) {
            return at(hope, rest * MEN + man);
        }

        private boolean canSpeak(int men) {
            if (men == 0) return true;
            for (int man = 0; man < MEN; man++) {
                int rest = men & ~(1 << man);
                if (rest != men && canSayOne(rest, man, 0, hopeful(rest, man))) return true;
            }
            return false;
        }

        /** Whether this man can say one of these, and the rest can go on. */
        private boolean canSayOne(int rest, int man, int fallen, int sayable) {
            for (int x = 0; x < INSULTS; x++) {
                if (has(sayable, x) && canGoOn(rest, man, fallen | 1 << x, x)) return true;
            }
            return false;
        }

        /** Whether the rest can speak once each after this man, who said the last one that fell. */
        private boolean canGoOn(int rest, int man, int fallen, int last) {
            if (rest == 0) return true;
            int answers = town.worseThan(last) & at(fitting, man) & ~fallen;
            if (answers == 0) return false;
            // the first insult is said to him who answers it
            boolean isFirst = fallen == 1 << last;
            for (int next = 0; next < MEN; next++) {
                int left = rest & ~(1 << next);
                if (left == rest || isFirst && !has(at(fitting, next), last)) continue;
                if (canSayOne(left, next, fallen, answers & hopeful(left, next))) return true;
            }
            return false;
        }
    }

    /** Rings, and the order of insults by which fewest steps go back. */
    private static final class Order {
        private static final int NO_ORDER = 1000;

        private final Town town;
        private final int[] reached = new int[INSULTS];
        /** By the insults that stand first: the fewest steps back that the others bring. */
        private final int[] back = new int[EVERY_INSULT + 1];
        private final int[] rank = new int[INSULTS];
        /** The book that was arranged last: most calls ask again of the same one. */
        private final int[] arranged = new int[INSULTS];
        private boolean isArranged = false;

        private Order(Town town) {
            this.town = town;
        }

        private int tops() {
            int bits = 0;
            for (int x = 0; x < INSULTS; x++) {
                if (town.worseThan(x) == 0) bits |= 1 << x;
            }
            return bits;
        }

        private int inRings() {
            for (int x = 0; x < INSULTS; x++) {
                store(reached, x, town.worseThan(x));
            }
            for (int by = 0; by < INSULTS; by++) {
                for (int x = 0; x < INSULTS; x++) {
                    if (has(at(reached, x), by)) store(reached, x, at(reached, x) | at(reached, by));
                }
            }
            int bits = 0;
            for (int x = 0; x < INSULTS; x++) {
                if (has(at(reached, x), x)) bits |= 1 << x;
            }
            return bits;
        }

        private void arrange() {
            if (isArranged && isSameBook()) return;
            store(back, EVERY_INSULT, 0);
            for (int placed = EVERY_INSULT - 1; placed >= 0; placed--) {
                store(back, placed, backWith(placed, nextAfter(placed)));
            }
            int placed = 0;
            for (int place = 0; place < INSULTS; place++) {
                int x = nextAfter(placed);
                store(rank, x, place);
                placed |= 1 << x;
            }
            for (int x = 0; x < INSULTS; x++) {
                store(arranged, x, town.worseThan(x));
            }
            isArranged = true;
        }

        private boolean isSameBook() {
            for (int x = 0; x < INSULTS; x++) {
                if (at(arranged, x) != town.worseThan(x)) return false;
            }
            return true;
        }

        /** The least insult that, next, brings the fewest steps back. */
        private int nextAfter(int placed) {
            int best = NO_ORDER;
            int next = 0;
            for (int x = 0; x < INSULTS; x++) {
                if (has(placed, x)) continue;
                int steps = backWith(placed, x);
                if (steps < best) {
                    best = steps;
                    next = x;
                }
            }
            return next;
        }

        private int backWith(int placed, int x) {
            return Integer.bitCount(town.worseThan(x) & placed) + at(back, placed | 1 << x);
        }

        private int countStruck() {
            return at(back, 0);
        }

        private int struck(int i) {
            int seen = 0;
            for (int from = 0; from < INSULTS; from++) {
                for (int to = 0; to < INSULTS; to++) {
                    if (!has(town.worseThan(from), to) || at(rank, from) < at(rank, to)) continue;
                    if (seen == i) return 10 * from + to;
                    seen++;
                }
            }
            return NONE;
        }
    }

    /** From one insult to another one with some between. */
    private static final class Ways {
        private final Town town;
        private int goal = 0;
        private int asked = 0;
        private int count = 0;
        private int wanted = NONE;

        private Ways(Town town) {
            this.town = town;
        }

        private void search(int from, int to, int k, int i) {
            goal = to;
            asked = i;
            count = 0;
            wanted = NONE;
            walk(from, 1 << from | 1 << to, k, 1);
        }

        /** Goes on from the last one, k more between; the digits are those so far. */
        private void walk(int last, int used, int k, int digits) {
            if (k <= 0) {
                if (!has(town.worseThan(last), goal)) return;
                if (count == asked) wanted = digits;
                count++;
                return;
            }
            for (int x = 0; x < INSULTS; x++) {
                if (!has(town.worseThan(last) & ~used, x)) continue;
                walk(x, used | 1 << x, k - 1, digits * 10 + x);
            }
        }

        private int count() {
            return count;
        }

        private int wanted() {
            return wanted;
        }
    }
}
