import java.lang.annotation.Retention;
import java.lang.annotation.RetentionPolicy;
import java.lang.reflect.InvocationTargetException;
import java.lang.reflect.Method;
import java.util.ArrayList;
import java.util.Comparator;
import java.util.List;

/**
 * For each sentence of the document that names a boundary case one test, with the sentence ahead of it:
 * the least and the greatest that is taken, the next one beyond each, what is empty, what is full, and
 * what is refused, with which answer first, and that nothing changed then.
 */
public final class Edges {
    private static final int NONE = OneWorse.NONE, UNKNOWN = OneWorse.UNKNOWN, OUTSIDE = OneWorse.OUTSIDE;
    private static final int STATE = OneWorse.STATE, FULL = OneWorse.FULL, NO = OneWorse.NO;
    private static final int PROMISES = 25;
    private static final String FULL_TEXT = "0a1b0c1d0e1f0g1h0i1j0a1b0c1d0e1f0g1h0i1j";
    private static final String TEN = "a>b>c>d>e>f>g>h>i>j";
    /** Every other one of TEN, from a on, and from b on. */
    private static final int ODD_ONES = 341, EVEN_ONES = 682;

    private static Sentence sentence;
    private static int wrong = 0;
    private static int checks = 0;

    /** The sentence that would be broken; promise 0: the terms. */
    @Retention(RetentionPolicy.RUNTIME)
    private @interface Sentence {
        int promise();

        String says();
    }

    private interface Call {
        int on(OneWorse x);
    }

    private interface CallWith {
        int on(OneWorse x, int v);
    }

    /** What a refused call is tried on. */
    private enum Start {
        NEW {
            OneWorse made() {
                return new OneWorse();
            }
        },
        /** Steps on the pad, image 0 kept and then left behind, image 1 not kept. */
        LIVELY {
            OneWorse made() {
                OneWorse x = withBook("a>b>c>a,c>d");
                x.needs(4, 9);
                x.needs(0, 1);
                x.man(2, 0, 11);
                x.man(3, 1, 77);
                x.image(0);
                x.step(2, 0, false);
                x.step(8, 9, true);
                x.needs(5, 2);
                x.man(1, 0, 61);
                x.man(4, 1, 1022);
                put(x, "e>f,d>e>a");
                return x;
            }
        },
        /** A quarrel on the pad, its third one none; both images kept. */
        QUARREL {
            OneWorse made() {
                OneWorse x = withBook(TEN);
                x.man(0, 1, ODD_ONES);
                x.image(1);
                x.man(0, 1, EVEN_ONES);
                x.image(0);
                put(x, "1a0b1b2c");
                return x;
            }
        },
        FULL_PAD {
            OneWorse made() {
                OneWorse x = withBook(TEN, "j>a");
                put(x, FULL_TEXT);
                return x;
            }
        },
        /** A pad that is full, and still wants a sign more. */
        FULL_STEPS {
            OneWorse made() {
                OneWorse x = new OneWorse();
                put(x, "a>b,b>c,c>d,d>e,e>f,f>g,g>h,h>i,i>j,j>a>");
                return x;
            }
        };

        abstract OneWorse made();
    }

    public static void main(String[] args) {
        List<Method> tests = new ArrayList<>();
        for (Method m : Edges.class.getDeclaredMethods()) {
            if (m.getAnnotation(Sentence.class) != null) tests.add(m);
        }
        tests.sort(Comparator.comparingInt(Edges::promiseOf).thenComparing(Method::getName));
        boolean[] tested = new boolean[PROMISES + 1];
        for (Method test : tests) {
            run(test);
            tested[promiseOf(test)] = true;
        }
        for (int promise = 0; promise <= PROMISES; promise++) {
            if (!tested[promise]) fail("no test of promise " + promise);
        }
        System.out.println(tests.size() + " sentences, " + checks + " checks, " + wrong + " wrong");
        if (wrong != 0) System.exit(1);
    }

    private static int promiseOf(Method test) {
        return test.getAnnotation(Sentence.class).promise();
    }

    private static void run(Method test) {
        sentence = test.getAnnotation(Sentence.class);
        int before = checks;
        try {
            test.invoke(null);
        } catch (InvocationTargetException e) {
            fail(test.getName() + " threw " + e.getCause());
        } catch (IllegalAccessException e) {
            fail(test.getName() + " can not be run");
        }
        if (checks == before) fail(test.getName() + " tests nothing");
    }

    private static void fail(String what) {
        wrong++;
        String where = sentence == null ? "" : "promise " + sentence.promise() + ", \"" + sentence.says() + "\": ";
        System.out.println(where + what);
    }

    private static void due(String call, int got, int want) {
        checks++;
        if (got != want) fail(call + " answered " + got + ", due is " + want);
    }

    private static void put(OneWorse x, String text) {
        x.wipe();
        for (int i = 0; i < text.length(); i++) x.say(text.charAt(i));
    }

    private static OneWorse padOf(String text) {
        OneWorse x = new OneWorse();
        put(x, text);
        return x;
    }

    private static OneWorse withBook(String... texts) {
        OneWorse x = new OneWorse();
        for (String text : texts) {
            put(x, text);
            x.steps();
        }
        return x;
    }

    private static OneWorse withEveryStep() {
        OneWorse x = new OneWorse();
        for (int from = 0; from < 10; from++) {
            for (int to = 0; to < 10; to++) {
                if (from != to) x.step(from, to, true);
            }
        }
        return x;
    }

    /** The chain of TEN, its insults known by turns to 0 and to 1. */
    private static OneWorse byTurns() {
        OneWorse x = withBook(TEN);
        x.man(0, 1, ODD_ONES);
        x.man(1, 1, EVEN_ONES);
        return x;
    }

    private static void tell(OneWorse x, List<Integer> state) {
        for (int what : new int[] {0, 1, 10, 11, 12, 13, 14, 15, 16, 17, 18, 19, 20, 21, 22, 23, 24}) {
            state.add(x.told(what));
        }
        for (int m = 0; m < 5; m++) state.add(x.told(30 + m));
        for (int i = 0; i < 10; i++) state.add(x.told(40 + i));
    }

    /** All that can be seen of an object: what it tells, its pad, its images. It is used up by this. */
    private static List<Integer> stateOf(OneWorse x) {
        List<Integer> state = new ArrayList<>();
        tell(x, state);
        for (int how = 0; how < 2; how++) {
            state.add(x.fault(how));
            state.add(x.judge(how));
        }
        state.add(x.steps());
        tell(x, state);
        for (int n = 0; n < 2; n++) {
            state.add(x.restore(n));
            tell(x, state);
        }
        return state;
    }

    private static void same(String call, OneWorse x, OneWorse as) {
        checks++;
        List<Integer> is = stateOf(x), was = stateOf(as);
        if (!is.equals(was)) fail(call + " changed something: " + was + " became " + is);
    }

    private static void refusedAt(Start start, String call, int want, Call refused) {
        OneWorse x = start.made();
        due(call + " at " + start, refused.on(x), want);
        same(call + " at " + start, x, start.made());
    }

    /** Refused wherever it is called, and nothing changed. */
    private static void refused(String call, int want, Call refused) {
        for (Start start : Start.values()) refusedAt(start, call, want, refused);
    }

    /** All from the least to the greatest are taken; the next ones, and those far off, are refused. */
    private static void takes(int least, int greatest, String call, int refusal, CallWith with) {
        OneWorse x = Start.LIVELY.made();
        for (int v = least; v <= greatest; v++) {
            checks++;
            if (with.on(x, v) == refusal) fail(call + " refused " + v);
            if ((v - least) % 200 == 199) x = Start.LIVELY.made();
        }
        int[] beyond = {least - 1, greatest + 1, least - 32, greatest + 32, least + 64, least + 1024,
            least | 1 << 30, Integer.MIN_VALUE | least, Integer.MIN_VALUE, Integer.MAX_VALUE};
        for (int v : beyond) {
            if (v >= least && v <= greatest) continue;
            refused(call + " of " + v, refusal, y -> with.on(y, v));
        }
    }

    // ---- terms

    @Sentence(promise = 0, says = "UNKNOWN -1, OUTSIDE -2, STATE -3, FULL -4, NO -5; NONE = -6")
    private static void answersOfRefusals() {
        due("UNKNOWN", UNKNOWN, -1);
        due("OUTSIDE", OUTSIDE, -2);
        due("STATE", STATE, -3);
        due("FULL", FULL, -4);
        due("NO", NO, -5);
        due("NONE", NONE, -6);
    }

    @Sentence(promise = 0, says = "They change nothing.")
    private static void allRefusalsOneAfterAnother() {
        OneWorse x = Start.LIVELY.made();
        due("say", x.say(127), OUTSIDE);
        due("fault", x.fault(2), OUTSIDE);
        due("step", x.step(3, 3, true), UNKNOWN);
        due("step", x.step(0, 1 + 32, false), UNKNOWN);
        due("needs", x.needs(4, 64), OUTSIDE);
        due("man", x.man(2, 0, 64), OUTSIDE);
        due("man", x.man(3, 1, 1024), OUTSIDE);
        due("fit", x.fit(5), UNKNOWN);
        due("judge", x.judge(0), NO);
        due("match", x.match(0, 1, 3), OUTSIDE);
        due("middle", x.middle(0, 1, 2, 3, 0), OUTSIDE);
        due("last", x.last(0, 1, 2), OUTSIDE);
        due("sent", x.sent(5, true), UNKNOWN);
        due("safe", x.safe(-1), UNKNOWN);
        due("worth", x.worth(0, 3), STATE);
        due("crowd", x.crowd(32, 1), OUTSIDE);
        due("rings", x.rings(2), OUTSIDE);
        due("between", x.between(0, 1, 5, 0), OUTSIDE);
        due("high", x.high(10), UNKNOWN);
        due("image", x.image(2), OUTSIDE);
        due("restore", x.restore(1), STATE);
        due("join", x.join(1), STATE);
        due("told", x.told(50), OUTSIDE);
        same("all these", x, Start.LIVELY.made());
        OneWorse y = Start.FULL_PAD.made();
        due("say", y.say('a'), FULL);
        due("steps", y.steps(), NO);
        same("these two", y, Start.FULL_PAD.made());
    }

    @Sentence(promise = 0, says = "INSULTS 0 to 9: UNKNOWN, there is no such INSULT")
    private static void insultsAre0To9() {
        takes(0, 9, "step from", UNKNOWN, (x, v) -> x.step(v, v == 0 ? 1 : 0, true));
        takes(0, 9, "step to", UNKNOWN, (x, v) -> x.step(v == 9 ? 8 : 9, v, true));
        takes(0, 9, "needs", UNKNOWN, (x, v) -> x.needs(v, 1));
        takes(0, 9, "middle", UNKNOWN, (x, v) -> x.middle(0, 1, v, 1023, 0));
        takes(0, 9, "worth", UNKNOWN, (x, v) -> x.worth(v, 0));
        takes(0, 9, "between from", UNKNOWN, (x, v) -> x.between(v, v == 0 ? 1 : 0, 1, -1));
        takes(0, 9, "between to", UNKNOWN, (x, v) -> x.between(v == 9 ? 8 : 9, v, 1, -1));
        takes(0, 9, "high", UNKNOWN, (x, v) -> x.high(v));
    }

    @Sentence(promise = 0, says = "MEN 0 to 4: UNKNOWN, there is no such MAN")
    private static void menAre0To4() {
        takes(0, 4, "traits of", UNKNOWN, (x, v) -> x.man(v, 0, 1));
        takes(0, 4, "knows of", UNKNOWN, (x, v) -> x.man(v, 1, 1));
        takes(0, 4, "fit", UNKNOWN, (x, v) -> x.fit(v));
        takes(0, 4, "match man", UNKNOWN, (x, v) -> x.match(v, v == 0 ? 1 : 0, 0));
        takes(0, 4, "match other", UNKNOWN, (x, v) -> x.match(v == 4 ? 3 : 4, v, 0));
        takes(0, 4, "middle man", UNKNOWN, (x, v) -> x.middle(v, v == 0 ? 1 : 0, 0, 1, 0));
        takes(0, 4, "middle other", UNKNOWN, (x, v) -> x.middle(v == 4 ? 3 : 4, v, 0, 1, 0));
        takes(0, 4, "last man", UNKNOWN, (x, v) -> x.last(v, v == 0 ? 1 : 0, 0));
        takes(0, 4, "last other", UNKNOWN, (x, v) -> x.last(v == 4 ? 3 : 4, v, 0));
        takes(0, 4, "sent opening", UNKNOWN, (x, v) -> x.sent(v, true));
        takes(0, 4, "sent answering", UNKNOWN, (x, v) -> x.sent(v, false));
        takes(0, 4, "safe", UNKNOWN, (x, v) -> x.safe(v));
        takes(0, 4, "worth", UNKNOWN, (x, v) -> x.worth(0, v));
    }

    @Sentence(promise = 0, says = "An object is used for at most 512 calls: the last of them is answered as the first one")
    private static void theLastCallOf512() {
        OneWorse x = byTurns();
        // the chain's 19 signs, wiped ahead and put into the book behind, and two men
        int calls = 1 + 19 + 1 + 2;
        due("match", x.match(0, 1, 1), 10);
        for (calls++; calls < 511; calls++) x.match(calls % 5, (calls + 1) % 5, calls % 3);
        due("the 512th match", x.match(0, 1, 1), 10);
    }

    @Sentence(promise = 0, says = "What only asks changes nothing either")
    private static void questionsChangeNothing() {
        for (Start start : Start.values()) {
            OneWorse x = start.made();
            for (int v = 0; v < 5; v++) {
                x.fault(v % 2);
                x.judge(v % 2);
                x.fit(v);
                x.match(v, (v + 1) % 5, v % 3);
                x.middle(v, (v + 1) % 5, v, 1023 >> v, 1);
                x.middle(v, (v + 1) % 5, v, 1 << v, 2);
                x.last(v, (v + 1) % 5, v % 2);
                x.sent(v, v % 2 == 0);
                x.safe(v);
                x.worth(v, v);
                x.worth(9 - v, v);
                x.crowd(31 >> v, v % 2);
                x.rings(v % 2);
                x.ladder(v - 2);
                x.between(v, 9 - v, v, v - 1);
                x.high(v);
                x.told(v);
            }
            same("asking at " + start, x, start.made());
        }
    }

    // ---- 1 a new object

    @Sentence(promise = 1, says = "No STEPS; all KNOW all, all FIT. (none at first; 63 at first; all at first; 0 at first)")
    private static void aNewObject() {
        OneWorse x = new OneWorse();
        due("signs", x.told(0), 0);
        due("steps", x.told(1), 0);
        for (int i = 0; i < 10; i++) {
            due("needs of " + i, x.told(10 + i), 0);
            due("steps from " + i, x.told(40 + i), 0);
        }
        for (int m = 0; m < 5; m++) {
            due("traits of " + m, x.told(20 + m), 63);
            due("knows of " + m, x.told(30 + m), 1023);
            due("fit " + m, x.fit(m), 1023);
        }
    }

    @Sentence(promise = 1, says = "OneWorse(): no IMAGE is kept, and the PAD is empty")
    private static void aNewObjectHasNoImageAndNoSign() {
        for (int n = 0; n < 2; n++) {
            due("restore " + n, new OneWorse().restore(n), STATE);
            due("join " + n, new OneWorse().join(n), STATE);
            due("fault " + n, new OneWorse().fault(n), 0);
        }
        due("wipe", new OneWorse().wipe(), 0);
    }

    @Sentence(promise = 1, says = "OneWorse(): each object is one by itself")
    private static void objectsAreApart() {
        OneWorse one = Start.LIVELY.made();
        same("another object", new OneWorse(), new OneWorse());
        same("another object", one, Start.LIVELY.made());
    }

    // ---- 2 say

    @Sentence(promise = 2, says = "codes 33 to 126; OUTSIDE")
    private static void codes33To126() {
        OneWorse x = new OneWorse();
        for (int code = 33; code <= 126; code++) {
            due("say " + code, x.say(code), 1);
            x.wipe();
        }
        for (int code : new int[] {32, 127, 0, -1, -33, 33 - 128, 33 + 128, 33 + 256, 33 + 65536, 'a' + 65536,
            Integer.MIN_VALUE, Integer.MIN_VALUE + 97, Integer.MAX_VALUE}) {
            refused("say " + code, OUTSIDE, y -> y.say(code));
        }
    }

    @Sentence(promise = 2, says = "A PAD of up to 40 signs; a sign more: how many; FULL")
    private static void fortySigns() {
        OneWorse x = new OneWorse();
        for (int many = 1; many <= 40; many++) due("say number " + many, x.say('a'), many);
        due("say number 41", x.say('a'), FULL);
        due("say number 42", x.say('~'), FULL);
        due("signs", x.told(0), 40);
        refusedAt(Start.FULL_PAD, "say", FULL, y -> y.say('!'));
        refusedAt(Start.FULL_STEPS, "say", FULL, y -> y.say('b'));
    }

    @Sentence(promise = 2, says = "OUTSIDE; FULL: OUTSIDE first")
    private static void sayOutsideAheadOfFull() {
        refusedAt(Start.FULL_PAD, "say 32", OUTSIDE, x -> x.say(32));
        refusedAt(Start.FULL_PAD, "say 127", OUTSIDE, x -> x.say(127));
    }

    // ---- 3 wipe

    @Sentence(promise = 3, says = "Signs go: how many there were.")
    private static void wipeEmptyOneFull() {
        OneWorse x = new OneWorse();
        due("wipe of none", x.wipe(), 0);
        x.say('a');
        due("wipe of one", x.wipe(), 1);
        due("wipe of none again", x.wipe(), 0);
        put(x, FULL_TEXT);
        due("wipe of 40", x.wipe(), 40);
        due("signs", x.told(0), 0);
        due("say, there is room again", x.say('a'), 1);
    }

    @Sentence(promise = 3, says = "Signs go: none of them is read again")
    private static void wipedSignsAreGone() {
        OneWorse x = padOf("a>b>c");
        x.wipe();
        due("fault of nothing", x.fault(0), 0);
        x.say('a');
        due("fault of a", x.fault(0), 1);
        x.say('>');
        due("fault of a>", x.fault(0), 2);
        put(x, "0a1b");
        put(x, "0");
        due("fault of 0", x.fault(1), 1);
        put(x, "0a1b");
        put(x, "0a");
        due("fault of 0a", x.fault(1), NONE);
    }

    @Sentence(promise = 3, says = "Signs go: THE BOOK, MEN and IMAGES stay")
    private static void wipeTouchesThePadAlone() {
        OneWorse x = Start.LIVELY.made(), y = Start.LIVELY.made();
        x.wipe();
        y.steps();
        List<Integer> before = stateOf(Start.LIVELY.made()), after = stateOf(x);
        due("steps", after.get(1), before.get(1));
        for (int place = 2; place < 32; place++) due("told, place " + place, after.get(place), before.get(place));
        due("the first image", x.restore(0), 1);
        y.restore(0);
        for (int what = 1; what < 50; what++) due("told " + what + " of the image", x.told(what), y.told(what));
    }

    // ---- 4 fault

    private static void faults(int how, String text, int want) {
        OneWorse x = padOf(text);
        due("fault " + how + " of " + text, x.fault(how), want);
        due("signs after fault", x.told(0), text.length());
    }

    /** All signs after a text: those that may stand there answer so, the others that place. */
    private static void next(int how, String text, String good, int want) {
        for (char sign = 33; sign <= 126; sign++) {
            faults(how, text + sign, good.indexOf(sign) >= 0 ? want : text.length());
        }
    }

    @Sentence(promise = 4, says = "how = 0, 1; OUTSIDE")
    private static void faultTakes0And1() {
        takes(0, 1, "fault", OUTSIDE, (x, v) -> x.fault(v));
    }

    @Sentence(promise = 4, says = "THE FAULT: the number of signs, if more must come (ROWS, one or more; at least once)")
    private static void nothingIsNoText() {
        faults(0, "", 0);
        faults(1, "", 0);
    }

    @Sentence(promise = 4, says = "STEPS as a text: each an INSULT, then > and an INSULT (at least once)")
    private static void theFirstStep() {
        next(0, "", "abcdefghij", 1);
        next(0, "a", ">", 2);
        next(0, "j", ">", 2);
        next(0, "a>", "bcdefghij", NONE);
        next(0, "j>", "abcdefghi", NONE);
    }

    @Sentence(promise = 4, says = "again and again; an INSULT does not follow itself")
    private static void stepsGoOn() {
        next(0, "a>b>", "acdefghij", NONE);
        next(0, "a>j>", "abcdefghi", NONE);
        faults(0, "a>b>", 4);
        faults(0, "a>b>a>b>a", NONE);
        faults(0, "a>b>b>c", 4);
        faults(0, "a>a", 2);
    }

    @Sentence(promise = 4, says = "ROWS, one or more, with , between: each at least once >")
    private static void rowsWithCommas() {
        next(0, "a>b", ">,", 4);
        next(0, "a>b,", "abcdefghij", 5);
        next(0, "a>b,c", ">", 6);
        next(0, "a>b,c>", "abdefghij", NONE);
        next(0, "a>b,b>c", ">,", 8);
        faults(0, "a>b,", 4);
        faults(0, "a>b,b>a", NONE);
        faults(0, "a>b,c,d>e", 5);
        faults(0, "a,b>c", 1);
        faults(0, ",", 0);
    }

    @Sentence(promise = 4, says = "A PAD of up to 40 signs: STEPS that fill it")
    private static void stepsInAFullPad() {
        faults(0, "a>b,b>c,c>d,d>e,e>f,f>g,g>h,h>i,i>j,j>a", NONE);
        faults(0, "a>b,b>c,c>d,d>e,e>f,f>g,g>h,h>i,i>j,j>a>", 40);
        faults(0, "a>b,b>c,c>d,d>e,e>f,f>g,g>h,h>i,i>j,j>a,", 40);
        faults(0, "a>b,b>c,c>d,d>e,e>f,f>g,g>h,h>i,i>j,j>ab", 39);
        faults(0, "a>b,b>c,c>d,d>e,e>f,f>g,g>h,h>i,i>j,j>j", 38);
        faults(0, TEN + ">a>c>e>g>i>b>d>f>h>j", NONE);
        faults(0, TEN + ">a>c>e>g>i>b>d>f>h>j>", 40);
    }

    @Sentence(promise = 4, says = "A QUARREL as a text: a MAN (digit 0 to 4) and an INSULT, at least once")
    private static void theFirstSpeaker() {
        next(1, "", "01234", 1);
        next(1, "0", "abcdefghij", NONE);
        next(1, "4", "abcdefghij", NONE);
    }

    @Sentence(promise = 4, says = "again and again; nobody speaks twice running")
    private static void speakersGoOn() {
        next(1, "0a", "1234", 3);
        next(1, "4a", "0123", 3);
        next(1, "0a2", "abcdefghij", NONE);
        next(1, "0a2b", "0134", 5);
        next(1, "0a2b0", "abcdefghij", NONE);
        faults(1, "0a0a", 2);
        faults(1, "0a1a0a1a", NONE);
    }

    @Sentence(promise = 4, says = "A PAD of up to 40 signs: a QUARREL that fills it")
    private static void aQuarrelInAFullPad() {
        faults(1, FULL_TEXT, NONE);
        faults(1, FULL_TEXT.substring(0, 39), 39);
        faults(1, FULL_TEXT.substring(0, 39) + "k", 39);
        faults(1, FULL_TEXT.substring(0, 38) + "0a", 38);
        faults(1, FULL_TEXT.substring(0, 38) + "5a", 38);
    }

    @Sentence(promise = 4, says = "the place of the first sign that can not stand there: the first of many")
    private static void theFirstFaultOfMany() {
        faults(0, "a>a>a,,", 2);
        faults(0, "!!!!", 0);
        faults(1, "0a0a5k", 2);
        faults(1, "9z9z", 0);
        faults(0, "0a1b", 0);
        faults(1, "a>b", 0);
    }

    // ---- 5 steps

    @Sentence(promise = 5, says = "NO: there is a FAULT.")
    private static void stepsRefusesFaults() {
        refusedAt(Start.NEW, "steps of nothing", NO, OneWorse::steps);
        refusedAt(Start.QUARREL, "steps of a quarrel", NO, OneWorse::steps);
        refusedAt(Start.FULL_PAD, "steps of a full quarrel", NO, OneWorse::steps);
        refusedAt(Start.FULL_STEPS, "steps of a row that wants more", NO, OneWorse::steps);
        for (String text : new String[] {"a", "a>", "a>a", "a>b,", "a>b,c", "a>b>b", "a>k", ",a>b", "a>b,c>"}) {
            OneWorse x = padOf(text);
            due("steps of " + text, x.steps(), NO);
            same("steps of " + text, x, padOf(text));
        }
    }

    @Sentence(promise = 5, says = "(it is empty then)")
    private static void stepsEmptiesThePad() {
        OneWorse x = padOf("a>b");
        due("steps", x.steps(), 1);
        due("signs", x.told(0), 0);
        due("steps again", x.steps(), NO);
        due("say", x.say('a'), 1);
        due("fault, nothing of the old text", x.fault(0), 1);
    }

    @Sentence(promise = 5, says = "STEPS on the PAD are in THE BOOK, too: how many there are in all.")
    private static void stepsAreAdded() {
        OneWorse x = withBook("a>j,j>a");
        due("from a", x.told(40), 512);
        due("from j", x.told(49), 1);
        put(x, "a>j");
        due("one that was there", x.steps(), 2);
        put(x, "a>b>a>b");
        due("one twice on the pad", x.steps(), 4);
        due("from a", x.told(40), 514);
        due("from b", x.told(41), 1);
        put(x, "b>c,d>e");
        due("a comma is no step", x.steps(), 6);
        due("from c", x.told(42), 0);
    }

    @Sentence(promise = 5, says = "how many there are in all: the most on a PAD, the most in THE BOOK")
    private static void theMostSteps() {
        due("one row of 39 signs", withBook(TEN + ">a>c>e>g>i>b>d>f>h>j").told(1), 19);
        due("ten rows", withBook("a>b,b>c,c>d,d>e,e>f,f>g,g>h,h>i,i>j,j>a").told(1), 10);
        OneWorse x = withEveryStep();
        put(x, "a>b>a");
        due("steps in a book that has all", x.steps(), 90);
        x.step(9, 8, false);
        put(x, "j>i");
        due("the last one", x.steps(), 90);
    }

    // ---- 6 step

    @Sentence(promise = 6, says = "A STEP is there, or not: whether it was (1, 0).")
    private static void eachStepThereAndNot() {
        OneWorse x = new OneWorse();
        OneWorse all = withEveryStep();
        for (int from = 0; from < 10; from++) {
            for (int to = 0; to < 10; to++) {
                if (from == to) continue;
                String call = "step " + from + " " + to;
                due(call + " was not", x.step(from, to, true), 0);
                due(call + " is alone", x.told(40 + from) * 100 + x.told(1), (1 << to) * 100 + 1);
                if (to == 0) due(call + " still is", x.step(from, to, true), 1);
                due(call + " was", x.step(from, to, false), 1);
                due(call + " of all", all.step(from, to, false), 1);
                due(call + " was the only one that went", all.told(40 + from), 1023 & ~(1 << from | 1 << to));
                all.step(from, to, true);
            }
        }
        due("steps", x.told(1), 0);
        due("struck twice", x.step(0, 1, false), 0);
    }

    @Sentence(promise = 6, says = "UNKNOWN: also both are one.")
    private static void noStepToItself() {
        for (int v = 0; v < 10; v++) {
            int one = v;
            refused("step to itself " + v, UNKNOWN, x -> x.step(one, one, true));
            refused("no step to itself " + v, UNKNOWN, x -> x.step(one, one, false));
        }
        for (int v : new int[] {-1, 10, Integer.MIN_VALUE, Integer.MAX_VALUE}) {
            refused("step of none " + v, UNKNOWN, x -> x.step(v, v, true));
        }
    }

    // ---- 7 needs

    @Sentence(promise = 7, says = "an INSULT NEEDS TRAITS (bits 0 to 63); OUTSIDE")
    private static void needs0To63() {
        takes(0, 63, "needs of 0", OUTSIDE, (x, v) -> x.needs(0, v));
        takes(0, 63, "needs of 9", OUTSIDE, (x, v) -> x.needs(9, v));
    }

    @Sentence(promise = 7, says = "What an INSULT NEEDS: which it was.")
    private static void needsTellsWhatWas() {
        OneWorse x = new OneWorse();
        for (int i = 0; i < 10; i++) {
            due("needs at first", x.needs(i, 63), 0);
            due("needs the most", x.needs(i, 0), 63);
            due("needs the least", x.needs(i, 54 + i), 0);
        }
        for (int i = 0; i < 10; i++) due("needs of " + i, x.told(10 + i), 54 + i);
    }

    @Sentence(promise = 7, says = "UNKNOWN; OUTSIDE: UNKNOWN first")
    private static void needsUnknownFirst() {
        refused("needs", UNKNOWN, x -> x.needs(10, 64));
        refused("needs", UNKNOWN, x -> x.needs(-1, -1));
    }

    // ---- 8 man

    @Sentence(promise = 8, says = "TRAITS (bits 0 to 63), KNOWS (bits 0 to 1023); OUTSIDE")
    private static void whatAManMayHave() {
        takes(0, 63, "traits of 0", OUTSIDE, (x, v) -> x.man(0, 0, v));
        takes(0, 63, "traits of 4", OUTSIDE, (x, v) -> x.man(4, 0, v));
        takes(0, 1023, "knows of 0", OUTSIDE, (x, v) -> x.man(0, 1, v));
        takes(0, 1023, "knows of 4", OUTSIDE, (x, v) -> x.man(4, 1, v));
        refused("traits of 64", OUTSIDE, x -> x.man(0, 0, 64));
        refused("traits of 1023", OUTSIDE, x -> x.man(0, 0, 1023));
    }

    @Sentence(promise = 8, says = "TRAITS (what = 0), KNOWS (1); OUTSIDE")
    private static void manTakes0And1() {
        takes(0, 1, "man", OUTSIDE, (x, v) -> x.man(0, v, 1));
    }

    @Sentence(promise = 8, says = "which it was")
    private static void manTellsWhatWas() {
        OneWorse x = new OneWorse();
        for (int m = 0; m < 5; m++) {
            due("traits at first", x.man(m, 0, 0), 63);
            due("traits of none", x.man(m, 0, 59 + m), 0);
            due("knows at first", x.man(m, 1, 0), 1023);
            due("knows nothing", x.man(m, 1, 1019 + m), 0);
        }
        for (int m = 0; m < 5; m++) {
            due("traits of " + m, x.man(m, 0, 63), 59 + m);
            due("knows of " + m, x.man(m, 1, 1023), 1019 + m);
        }
    }

    @Sentence(promise = 8, says = "UNKNOWN; OUTSIDE: UNKNOWN first")
    private static void manUnknownFirst() {
        refused("man", UNKNOWN, x -> x.man(5, 2, 0));
        refused("man", UNKNOWN, x -> x.man(5, 0, 64));
        refused("man", UNKNOWN, x -> x.man(-1, 1, 1024));
        refused("man", UNKNOWN, x -> x.man(-1, -1, -1));
    }

    // ---- 9 fit

    @Sentence(promise = 9, says = "it FITS a MAN who has all of these: who needs none, who has none, all but one")
    private static void fitsWhoHasAll() {
        OneWorse x = new OneWorse();
        x.man(0, 0, 0);
        due("none needed, none there", x.fit(0), 1023);
        for (int i = 0; i < 10; i++) {
            x.needs(i, 63);
            due("all needed, none there", x.fit(0), 1023 & -(2 << i));
        }
        due("all needed, all there", x.fit(1), 1023);
        for (int trait = 0; trait < 6; trait++) {
            x.man(2, 0, 63 & ~(1 << trait));
            due("all needed, one not there", x.fit(2), 0);
            x.needs(9, 1 << trait);
            due("just that one needed", x.fit(2), 0);
            x.needs(9, 63 & ~(1 << trait));
            due("all others needed", x.fit(2), 512);
            x.needs(9, 63);
        }
    }

    @Sentence(promise = 9, says = "INSULTS that FIT a MAN, as bits: each one by itself")
    private static void eachInsultFitsByItself() {
        OneWorse x = new OneWorse();
        x.man(3, 0, 62);
        for (int i = 0; i < 10; i++) {
            x.needs(i, 1);
            due("all but " + i, x.fit(3), 1023 & ~(1 << i));
            due("another man", x.fit(4), 1023);
            x.needs(i, 0);
        }
        x.man(3, 1, 0);
        due("what he knows is nothing to it", x.fit(3), 1023);
    }

    // ---- 10 judge

    private static void judged(OneWorse x, String text, int place, int why) {
        put(x, text);
        due("judge 0 of " + text, x.judge(0), place);
        due("judge 1 of " + text, x.judge(1), why);
        due("signs after judge", x.told(0), text.length());
    }

    @Sentence(promise = 10, says = "the place (what = 0), why (1); OUTSIDE")
    private static void judgeTakes0And1() {
        OneWorse x = Start.QUARREL.made();
        due("judge 0", x.judge(0), 2);
        due("judge 1", x.judge(1), 1);
        takes(0, 1, "judge", OUTSIDE, (y, v) -> y.judge(v));
    }

    @Sentence(promise = 10, says = "NO: there is a FAULT.")
    private static void judgeRefusesFaults() {
        for (int v = 0; v < 2; v++) {
            int what = v;
            refusedAt(Start.NEW, "judge of nothing", NO, x -> x.judge(what));
            refusedAt(Start.LIVELY, "judge of steps", NO, x -> x.judge(what));
            refusedAt(Start.FULL_STEPS, "judge of steps", NO, x -> x.judge(what));
        }
        for (String text : new String[] {"0", "0a1", "0a0b", "5a", "0k", FULL_TEXT.substring(0, 39)}) {
            OneWorse x = padOf(text);
            due("judge of " + text, x.judge(0), NO);
            due("judge of " + text, x.judge(1), NO);
            same("judge of " + text, x, padOf(text));
        }
    }

    @Sentence(promise = 10, says = "OUTSIDE; NO: OUTSIDE first")
    private static void judgeOutsideFirst() {
        refusedAt(Start.NEW, "judge", OUTSIDE, x -> x.judge(2));
        refusedAt(Start.LIVELY, "judge", OUTSIDE, x -> x.judge(-1));
    }

    @Sentence(promise = 10, says = "the first place (from 0 on: the first one who speaks); NONE: all are good")
    private static void placesFromTheFirstToTheLast() {
        OneWorse x = withBook(TEN, "j>a");
        judged(x, FULL_TEXT.substring(0, 20), NONE, NONE);
        judged(x, FULL_TEXT.substring(0, 22), 10, 2);
        judged(x, FULL_TEXT, 10, 2);
        for (int i = 0; i < 10; i++) {
            int man = i % 2;
            x.man(man, 1, 1023 & ~(1 << i));
            judged(x, FULL_TEXT.substring(0, 20), i, 4);
            x.man(man, 1, 1023);
        }
        judged(x, "0j", NONE, NONE);
        judged(x, "4j3a", NONE, NONE);
    }

    @Sentence(promise = 10, says = "1 there is no STEP from the INSULT ahead of it (the first one has none ahead)")
    private static void whyOne() {
        OneWorse x = withBook("a>b>c");
        judged(x, "0c", NONE, NONE);
        judged(x, "0a1b0c", NONE, NONE);
        judged(x, "0b1a", 1, 1);
        judged(x, "0a1c", 1, 1);
        judged(x, "0c1a", 1, 1);
        judged(x, "0a1a", 1, 1);
    }

    @Sentence(promise = 10, says = "2 it fell in this QUARREL already")
    private static void whyTwo() {
        OneWorse x = withBook("a>b>a,b>c>a");
        judged(x, "0a1b0a", 2, 2);
        judged(x, "0a1b0c1a", 3, 2);
        judged(x, "0b1a0b", 2, 2);
        judged(x, "0a1b", NONE, NONE);
        judged(x, "0b1c0a", NONE, NONE);
    }

    @Sentence(promise = 10, says = "2 it fell in this QUARREL already: whichever of those ahead it was")
    private static void whyTwoForEachEarlierOne() {
        for (int said = 2; said <= 9; said++) {
            OneWorse x = withEveryStep();
            String ahead = FULL_TEXT.substring(0, 2 * said);
            for (int earlier = 0; earlier < said - 1; earlier++) {
                judged(x, ahead + "4" + (char) ('a' + earlier), said, 2);
            }
            judged(x, ahead + "4" + (char) ('a' + said), NONE, NONE);
        }
    }

    @Sentence(promise = 10, says = "why: the least of these that holds")
    private static void theLeastWhy() {
        OneWorse x = withBook("a>b>c>a");
        x.needs(0, 1);
        x.man(2, 0, 62);
        x.man(3, 1, 1022);
        judged(x, "0b3a", 1, 1);
        judged(x, "2b1a", 1, 1);
        judged(x, "0a1b0a", 2, 1);
        judged(x, "0a1b2c0a", 3, 2);
        judged(x, "0a1b0c3a", 3, 2);
        judged(x, "0a1b2c3a", 3, 2);
        judged(x, "1b2c3a", 2, 3);
        judged(x, "1b0c3a", 2, 4);
        judged(x, "3a2b", 0, 3);
        judged(x, "3a1b", 0, 4);
    }

    @Sentence(promise = 10, says = "the first place that was none, and why: those behind it are not asked")
    private static void onlyTheFirstThatWasNone() {
        OneWorse x = withBook("a>b>c");
        x.man(1, 1, 0);
        judged(x, "0a1b0a", 1, 4);
        judged(x, "1a0c1c", 0, 4);
        judged(x, "0a2c1b", 1, 1);
    }

    @Sentence(promise = 10, says = "the first one to the one who speaks next (to nobody, if there is none: it FITS)")
    private static void whomTheFirstOneIsSaidTo() {
        OneWorse x = withBook("a>b>c");
        x.needs(0, 63);
        for (int m = 0; m < 5; m++) x.man(m, 0, 0);
        judged(x, "0a", NONE, NONE);
        judged(x, "0a1b", 0, 3);
        x.man(1, 0, 63);
        judged(x, "0a1b", NONE, NONE);
        judged(x, "0a2b", 0, 3);
        judged(x, "0a2b1c", 0, 3);
        judged(x, "0a1b2c", NONE, NONE);
        x.man(0, 1, 1022);
        judged(x, "0a", 0, 4);
        judged(x, "0a2b", 0, 3);
        judged(x, "0a1b", 0, 4);
    }

    @Sentence(promise = 10, says = "Each is said to the MAN who spoke ahead of him")
    private static void whomTheOthersAreSaidTo() {
        OneWorse x = withBook("a>b>c");
        x.needs(1, 32);
        x.man(0, 0, 31);
        judged(x, "0a1b", 1, 3);
        judged(x, "1a0b", NONE, NONE);
        judged(x, "2a1b0c", NONE, NONE);
        judged(x, "0b", NONE, NONE);
        x.needs(1, 0);
        x.needs(2, 32);
        judged(x, "1a0b2c", 2, 3);
        judged(x, "0a1b2c", NONE, NONE);
        judged(x, "1a2b0c", NONE, NONE);
    }

    // ---- 11 match

    private static void matched(OneWorse x, int man, int other, int pays, int many, int opens) {
        due("match " + man + " " + other + " 0", x.match(man, other, 0), pays);
        due("match " + man + " " + other + " 1", x.match(man, other, 1), many);
        due("match " + man + " " + other + " 2", x.match(man, other, 2), opens);
    }

    @Sentence(promise = 11, says = "WHO PAYS (what = 0), how many are said (1), with which he opens (2); OUTSIDE")
    private static void matchTakes0To2() {
        takes(0, 2, "match", OUTSIDE, (x, v) -> x.match(0, 1, v));
    }

    @Sentence(promise = 11, says = "UNKNOWN: also both are one")
    private static void noMatchWithHimself() {
        for (int v = 0; v < 5; v++) {
            int man = v;
            refused("match " + v + " " + v, UNKNOWN, x -> x.match(man, man, 0));
        }
        refused("match -1 -1", UNKNOWN, x -> x.match(-1, -1, 0));
        refused("match 5 5", UNKNOWN, x -> x.match(5, 5, 0));
    }

    @Sentence(promise = 11, says = "UNKNOWN; OUTSIDE: UNKNOWN first")
    private static void matchUnknownFirst() {
        refused("match", UNKNOWN, x -> x.match(5, 0, 3));
        refused("match", UNKNOWN, x -> x.match(0, -1, -1));
        refused("match", UNKNOWN, x -> x.match(2, 2, 3));
    }

    @Sentence(promise = 11, says = "Who can not (at the beginning, too) PAYS; NONE: he can not")
    private static void whoCanNotOpenPays() {
        OneWorse x = withBook(TEN);
        x.man(3, 1, 0);
        matched(x, 3, 4, 3, 0, NONE);
        matched(x, 4, 3, 3, 1, 0);
        x = withBook(TEN);
        for (int i = 0; i < 10; i++) x.needs(i, 8);
        x.man(4, 0, 55);
        matched(x, 3, 4, 3, 0, NONE);
        matched(x, 4, 3, 3, 1, 0);
        x = new OneWorse();
        x.man(0, 1, 1);
        x.needs(0, 1);
        x.man(1, 0, 0);
        matched(x, 0, 1, 0, 0, NONE);
        matched(x, 0, 2, 2, 1, 0);
    }

    @Sentence(promise = 11, says = "how many INSULTS are said: from one to all ten")
    private static void theShortestAndTheLongestMatch() {
        matched(new OneWorse(), 0, 1, 1, 1, 0);
        OneWorse x = byTurns();
        matched(x, 0, 1, 0, 10, 0);
        matched(x, 1, 0, 0, 1, 9);
        x.man(1, 1, 1023 & ~512);
        x.man(0, 1, ODD_ONES);
        matched(x, 0, 1, 1, 1, 8);
    }

    @Sentence(promise = 11, says = "with which to open so (the least INSULT)")
    private static void theLeastAndTheGreatestOpening() {
        OneWorse x = new OneWorse();
        for (int i = 0; i < 10; i++) {
            x.man(0, 1, 1023 & -(1 << i));
            matched(x, 0, 1, 1, 1, i);
        }
        x = withBook("a>b");
        matched(x, 0, 1, 1, 1, 1);
        x.man(1, 1, 1);
        matched(x, 0, 1, 1, 1, 0);
    }

    @Sentence(promise = 11, says = "each with one that did not fall yet")
    private static void nothingTwiceInAMatch() {
        OneWorse x = withBook("a>b>a");
        x.man(0, 1, 1);
        x.man(1, 1, 2);
        matched(x, 0, 1, 0, 2, 0);
        matched(x, 1, 0, 1, 2, 1);
        x = withBook(TEN, "j>a");
        matched(x, 0, 1, 0, 10, 0);
    }

    @Sentence(promise = 11, says = "if he does not pay, that fewest INSULTS are said in all, and, if he does, most")
    private static void shortIfHeWinsLongIfHePays() {
        // he wins with a (three in all) and with d (one)
        OneWorse x = withBook("a>b>c,d>e");
        x.man(0, 1, 1 + 4 + 8);
        x.man(1, 1, 2);
        matched(x, 0, 1, 1, 1, 2);
        x.man(0, 1, 1 + 8);
        x.man(1, 1, 2 + 16);
        matched(x, 0, 1, 0, 2, 0);
        x = withBook("a>b,c>d>e>f");
        x.man(0, 1, 1 + 4 + 16);
        x.man(1, 1, 2 + 8 + 32);
        matched(x, 0, 1, 0, 4, 2);
    }

    @Sentence(promise = 11, says = "Both at their best: whatever was asked ahead")
    private static void matchesAfterOtherQuestions() {
        OneWorse x = withBook(TEN);
        due("last 0 1 0", x.last(0, 1, 0), 10);
        matched(x, 0, 1, 1, 1, 9);
        due("high 0", x.high(0), 9);
        matched(x, 0, 1, 1, 1, 9);
        due("last 0 1 0", x.last(0, 1, 0), 10);
        due("sent 0 true", x.sent(0, true), 30);
        x.step(8, 9, false);
        matched(x, 0, 1, 1, 1, 8);
        x.man(0, 1, 1);
        matched(x, 0, 1, 0, 2, 0);
        x.needs(1, 1);
        x.man(0, 0, 62);
        matched(x, 0, 1, 1, 1, 0);
    }

    // ---- 12 middle

    private static void midway(OneWorse x, int[] from, int pays, int more, int answer) {
        String call = "middle " + from[0] + " " + from[1] + " " + from[2] + " " + from[3];
        due(call + " 0", x.middle(from[0], from[1], from[2], from[3], 0), pays);
        due(call + " 1", x.middle(from[0], from[1], from[2], from[3], 1), more);
        due(call + " 2", x.middle(from[0], from[1], from[2], from[3], 2), answer);
    }

    private static int[] from(int man, int other, int insult, int fallen) {
        return new int[] {man, other, insult, fallen};
    }

    @Sentence(promise = 12, says = "WHO PAYS (what = 0), how many more are said (1), with which he answers (2); OUTSIDE")
    private static void middleTakes0To2() {
        takes(0, 2, "middle", OUTSIDE, (x, v) -> x.middle(0, 1, 0, 1, v));
    }

    @Sentence(promise = 12, says = "some have fallen (bits); OUTSIDE")
    private static void fallenUpTo1023() {
        OneWorse taken = Start.LIVELY.made();
        due("middle, a alone fell", taken.middle(0, 1, 0, 1, 2), 1);
        due("middle, all fell", taken.middle(0, 1, 0, 1023, 2), NONE);
        takes(512, 1023, "middle, j fell", OUTSIDE, (x, v) -> x.middle(0, 1, 9, v, 0));
        for (int v : new int[] {1023 + 1024, 1024 + 1, 1 << 30 | 1, Integer.MIN_VALUE + 1, -1, Integer.MAX_VALUE}) {
            refused("middle fallen " + v, OUTSIDE, x -> x.middle(0, 1, 0, v, 0));
        }
    }

    @Sentence(promise = 12, says = "OUTSIDE: also, if that INSULT is not among those fallen")
    private static void theInsultIsAmongThoseFallen() {
        for (int i = 0; i < 10; i++) {
            int insult = i;
            refused("middle, none fell", OUTSIDE, x -> x.middle(0, 1, insult, 0, 0));
            refused("middle, all others fell", OUTSIDE, x -> x.middle(0, 1, insult, 1023 & ~(1 << insult), 1));
        }
    }

    @Sentence(promise = 12, says = "UNKNOWN (both are one, too); OUTSIDE: UNKNOWN first")
    private static void middleUnknownFirst() {
        for (int v = 0; v < 5; v++) {
            int man = v;
            refused("middle of one", UNKNOWN, x -> x.middle(man, man, 0, 1, 0));
        }
        refused("middle", UNKNOWN, x -> x.middle(5, 0, 0, 1024, 0));
        refused("middle", UNKNOWN, x -> x.middle(0, 5, 0, 2, 0));
        refused("middle", UNKNOWN, x -> x.middle(0, 1, 10, 0, 0));
        refused("middle", UNKNOWN, x -> x.middle(0, 1, -1, -1, 3));
        refused("middle", UNKNOWN, x -> x.middle(1, 1, 0, 0, -1));
    }

    @Sentence(promise = 12, says = "with which he answers (2; NONE): who can not PAYS, none is said more")
    private static void whoCanNotAnswerPays() {
        OneWorse x = withBook(TEN);
        midway(x, from(0, 1, 9, 512), 0, 0, NONE);
        midway(x, from(4, 3, 0, 1023), 4, 0, NONE);
        midway(x, from(0, 1, 0, 3), 0, 0, NONE);
        x.man(0, 1, 1023 & ~2);
        midway(x, from(0, 1, 0, 1), 0, 0, NONE);
        x.man(0, 1, 1023);
        x.needs(1, 16);
        x.man(1, 0, 47);
        midway(x, from(0, 1, 0, 1), 0, 0, NONE);
        midway(x, from(1, 0, 0, 1), 0, 9, 1);
    }

    @Sentence(promise = 12, says = "how many more are said: up to nine; answers: the least, up to 9")
    private static void theMostMoreAndTheGreatestAnswer() {
        OneWorse x = byTurns();
        midway(x, from(1, 0, 0, 1), 0, 9, 1);
        midway(x, from(0, 1, 1, 3), 0, 8, 2);
        midway(x, from(1, 0, 8, 511), 0, 1, 9);
        midway(x, from(1, 0, 8, 256), 0, 1, 9);
        x = withBook("a>b,a>j,a>e");
        midway(x, from(0, 1, 0, 1), 1, 1, 1);
        midway(x, from(0, 1, 0, 3), 1, 1, 4);
        midway(x, from(0, 1, 0, 19), 1, 1, 9);
    }

    @Sentence(promise = 12, says = "From the middle, both at their best: fewest, if he does not pay, most, if he does, the least so")
    private static void shortOrLongFromTheMiddle() {
        // b wins with three more, d and e with one
        OneWorse x = withBook("a>b>c>j,a>d,a>e");
        x.man(0, 1, 1023 & ~4);
        x.man(1, 1, 4);
        midway(x, from(0, 1, 0, 1), 1, 1, 3);
        midway(x, from(0, 1, 0, 1 + 8), 1, 1, 4);
        midway(x, from(0, 1, 0, 1 + 8 + 16), 1, 3, 1);
        // b loses after two more, d and e after four
        x = withBook("a>b>c,a>d>f>h>i,a>e>f");
        x.man(0, 1, 1 + 2 + 8 + 16 + 128);
        x.man(1, 1, 4 + 32 + 256);
        midway(x, from(0, 1, 0, 1), 0, 4, 3);
        midway(x, from(0, 1, 0, 1 + 8), 0, 4, 4);
        midway(x, from(0, 1, 0, 1 + 8 + 16), 0, 2, 1);
        midway(x, from(0, 1, 0, 1 + 8 + 16 + 2), 0, 0, NONE);
    }

    @Sentence(promise = 12, says = "the MAN must answer the other one's INSULT: it need not be one that he could have said")
    private static void theOthersInsultIsOnlyAnswered() {
        OneWorse x = withBook("a>b");
        x.man(1, 1, 0);
        midway(x, from(0, 1, 0, 1), 1, 1, 1);
        x.needs(0, 1);
        x.man(0, 0, 0);
        midway(x, from(0, 1, 0, 1), 1, 1, 1);
    }

    // ---- 13 last

    private static void lasting(OneWorse x, int man, int other, int most, int opens) {
        due("last " + man + " " + other + " 0", x.last(man, other, 0), most);
        due("last " + man + " " + other + " 1", x.last(man, other, 1), opens);
    }

    @Sentence(promise = 13, says = "LAST (what = 0), the opening (1); OUTSIDE")
    private static void lastTakes0And1() {
        takes(0, 1, "last", OUTSIDE, (x, v) -> x.last(0, 1, v));
    }

    @Sentence(promise = 13, says = "UNKNOWN, likewise; OUTSIDE: UNKNOWN first")
    private static void lastUnknownFirst() {
        for (int v = 0; v < 5; v++) {
            int man = v;
            refused("last of one", UNKNOWN, x -> x.last(man, man, 0));
        }
        refused("last", UNKNOWN, x -> x.last(5, 0, 2));
        refused("last", UNKNOWN, x -> x.last(0, -1, -1));
        refused("last", UNKNOWN, x -> x.last(3, 3, 2));
    }

    @Sentence(promise = 13, says = "the most INSULTS that can be said: from none (NONE) to all ten")
    private static void theShortestAndTheLongestLast() {
        OneWorse x = byTurns();
        lasting(x, 0, 1, 10, 0);
        lasting(x, 1, 0, 9, 1);
        x.man(0, 1, 0);
        lasting(x, 0, 1, 0, NONE);
        lasting(x, 1, 0, 1, 1);
        x.man(0, 1, 512);
        lasting(x, 0, 1, 1, 9);
        for (int i = 0; i < 10; i++) x.needs(i, 1);
        x.man(1, 0, 62);
        lasting(x, 0, 1, 0, NONE);
        lasting(new OneWorse(), 4, 3, 1, 0);
        lasting(withEveryStep(), 0, 4, 10, 0);
        lasting(withBook("j>i>h>g>f>e>d>c>b>a"), 2, 3, 10, 9);
    }

    @Sentence(promise = 13, says = "with which to open (the least)")
    private static void theLeastOpeningOfLast() {
        OneWorse x = withBook("a>b,c>d>e,f>g>h");
        lasting(x, 0, 1, 3, 2);
        x.step(6, 8, true);
        lasting(x, 0, 1, 3, 2);
        x.step(7, 9, true);
        lasting(x, 0, 1, 4, 5);
        x.man(0, 1, 1023 & ~(1 << 5));
        lasting(x, 0, 1, 3, 2);
    }

    // ---- 14 sent

    @Sentence(promise = 14, says = "SENT: of MEN those who, opening (or answering), do not PAY, as bits: from none to all others")
    private static void sentNoneAndAllOthers() {
        for (int man = 0; man < 5; man++) {
            OneWorse x = new OneWorse();
            due("sent " + man + " true", x.sent(man, true), 31 & ~(1 << man));
            due("sent " + man + " false", x.sent(man, false), 0);
            x.man(man, 1, 0);
            due("sent against who knows nothing, true", x.sent(man, true), 31 & ~(1 << man));
            due("sent against who knows nothing, false", x.sent(man, false), 31 & ~(1 << man));
            x = new OneWorse();
            for (int i = 0; i < 10; i++) x.needs(i, 1);
            x.man(man, 0, 0);
            due("sent against whom nothing fits, true", x.sent(man, true), 0);
            due("sent against whom nothing fits, false", x.sent(man, false), 0);
        }
    }

    @Sentence(promise = 14, says = "SENT: each of them by himself")
    private static void sentEachByHimself() {
        for (int one = 1; one < 5; one++) {
            OneWorse x = new OneWorse();
            x.man(one, 1, 0);
            due("sent 0 true without " + one, x.sent(0, true), 30 & ~(1 << one));
            x = withBook("a>b");
            x.man(0, 1, 1);
            for (int m = 1; m < 5; m++) x.man(m, 1, m == one ? 2 : 1);
            due("sent 0 false with " + one, x.sent(0, false), 1 << one);
        }
    }

    @Sentence(promise = 14, says = "those who do not PAY in a MATCH: by the last one of the ten")
    private static void sentByTheLastOfTen() {
        OneWorse x = withBook("j>i>h>g>f>e>d>c>b>a");
        for (int m = 0; m < 5; m++) x.man(m, 1, ODD_ONES);
        x.man(0, 1, EVEN_ONES);
        x.man(1, 1, ODD_ONES & ~1);
        due("sent 0 true", x.sent(0, true), 28);
        due("sent 0 false", x.sent(0, false), 28);
        due("sent 2 true", x.sent(2, true), 26);
        due("sent 2 false", x.sent(2, false), 0);
        due("worth 0 1", x.worth(0, 1), 102);
        due("worth 0 0, to open with", x.worth(0, 0), 103);
    }

    // ---- 15 safe

    @Sentence(promise = 15, says = "SAFE is a MAN for whom no INSULT FITS that some other MAN KNOWS: 1, 0")
    private static void safeByOneInsult() {
        for (int man = 0; man < 5; man++) {
            OneWorse x = new OneWorse();
            due("safe " + man + " at first", x.safe(man), 0);
            for (int i = 0; i < 10; i++) x.needs(i, 1);
            x.man(man, 0, 62);
            due("safe " + man + " whom nothing fits", x.safe(man), 1);
            for (int i = 0; i < 10; i++) {
                x.needs(i, 0);
                due("safe " + man + " whom " + i + " fits", x.safe(man), 0);
                x.needs(i, 1);
            }
            x.needs(9, 0);
            for (int m = 0; m < 5; m++) {
                if (m != man) x.man(m, 1, 511);
            }
            due("safe " + man + " who knows it alone", x.safe(man), 1);
            for (int m = 0; m < 5; m++) {
                if (m == man) continue;
                x.man(m, 1, 512);
                due("safe " + man + " if " + m + " knows it", x.safe(man), 0);
                x.man(m, 1, 511);
            }
        }
    }

    @Sentence(promise = 15, says = "SAFE: others who KNOW nothing")
    private static void safeFromThoseWhoKnowNothing() {
        OneWorse x = new OneWorse();
        for (int m = 0; m < 4; m++) {
            due("safe 4, others know", x.safe(4), 0);
            x.man(m, 1, 0);
        }
        due("safe 4", x.safe(4), 1);
        due("safe 0", x.safe(0), 0);
        x.man(4, 1, 0);
        due("safe 0", x.safe(0), 1);
    }

    // ---- 16 worth

    @Sentence(promise = 16, says = "in how many MATCHES more (with each other one, opening, answering): from 0 to 8, told with 100 more")
    private static void worthFrom100To108() {
        OneWorse x = withBook("a>b");
        x.man(0, 1, 0);
        due("worth 9 0, to open with", x.worth(9, 0), 104);
        for (int m = 1; m < 5; m++) x.man(m, 1, 1);
        due("worth 1 0, to open with and to answer", x.worth(1, 0), 108);
        for (int m = 1; m < 5; m++) {
            x.man(m, 1, 0);
            due("worth 1 0, " + m + " can not open anyway", x.worth(1, 0), 108 - m);
        }
        x.man(0, 1, 4);
        due("worth 1 0, he can open without", x.worth(1, 0), 100);
        x.man(0, 1, 0);
        x.needs(1, 1);
        for (int m = 1; m < 5; m++) x.man(m, 0, 62);
        due("worth 1 0, it fits nobody", x.worth(1, 0), 100);
    }

    @Sentence(promise = 16, says = "UNKNOWN; STATE: he KNOWS it.")
    private static void worthOfWhatHeKnows() {
        for (int i = 0; i < 10; i++) {
            int insult = i;
            refusedAt(Start.NEW, "worth " + i + " 0", STATE, x -> x.worth(insult, 0));
            refusedAt(Start.NEW, "worth " + i + " 4", STATE, x -> x.worth(insult, 4));
            OneWorse x = new OneWorse();
            x.man(4, 1, 1023 & ~(1 << i));
            for (int j = 0; j < 10; j++) {
                due("worth " + j + " 4 without " + i, x.worth(j, 4), j == i ? 100 : STATE);
            }
        }
        refused("worth", UNKNOWN, x -> x.worth(10, 0));
        refused("worth", UNKNOWN, x -> x.worth(0, 5));
        refused("worth", UNKNOWN, x -> x.worth(-1, -1));
    }

    @Sentence(promise = 16, says = "if he KNOWS it besides: he does not afterwards")
    private static void worthTeachesNothing() {
        OneWorse x = new OneWorse(), y = new OneWorse();
        x.man(2, 1, 0);
        y.man(2, 1, 0);
        due("worth 0 2", x.worth(0, 2), 104);
        due("worth 0 2 again", x.worth(0, 2), 104);
        same("worth", x, y);
    }

    // ---- 17 crowd

    private static void crowded(OneWorse x, int men, int oneDay, int days) {
        due("crowd " + men + " 0", x.crowd(men, 0), oneDay);
        due("crowd " + men + " 1", x.crowd(men, 1), days);
    }

    @Sentence(promise = 17, says = "MEN of a set (bits 0 to 31), what = 0, 1; OUTSIDE")
    private static void crowdTakes0To31() {
        takes(0, 31, "crowd 0", OUTSIDE, (x, v) -> x.crowd(v, 0));
        takes(0, 31, "crowd 1", OUTSIDE, (x, v) -> x.crowd(v, 1));
        takes(0, 1, "crowd", OUTSIDE, (x, v) -> x.crowd(31, v));
        refused("crowd", OUTSIDE, x -> x.crowd(32, 2));
    }

    @Sentence(promise = 17, says = "1, 0; none can")
    private static void aCrowdOfNone() {
        crowded(new OneWorse(), 0, 1, 0);
        OneWorse x = new OneWorse();
        for (int m = 0; m < 5; m++) x.man(m, 1, 0);
        crowded(x, 0, 1, 0);
    }

    @Sentence(promise = 17, says = "A CROWD of one: said to nobody, it FITS")
    private static void aCrowdOfOne() {
        for (int m = 0; m < 5; m++) {
            OneWorse x = new OneWorse();
            for (int i = 0; i < 10; i++) x.needs(i, 1);
            for (int other = 0; other < 5; other++) x.man(other, 0, 0);
            crowded(x, 1 << m, 1, 1);
            crowded(x, 31, 0, 5);
            x.man(m, 1, 512);
            crowded(x, 1 << m, 1, 1);
            x.man(m, 1, 0);
            crowded(x, 1 << m, 0, NONE);
            crowded(x, 31, 0, NONE);
            crowded(x, 31 & ~(1 << m), 0, 4);
        }
    }

    @Sentence(promise = 17, says = "DAYS (1; NONE): from 1 to 5 for all MEN, by how long a QUARREL can be")
    private static void daysForAll() {
        crowded(new OneWorse(), 31, 0, 5);
        crowded(withBook("a>b"), 31, 0, 3);
        crowded(withBook("a>b>c"), 31, 0, 2);
        crowded(withBook("a>b>c>d"), 31, 0, 2);
        crowded(withBook("a>b>c>d>e"), 31, 1, 1);
        crowded(withBook("a>b>c>d"), 15, 1, 1);
        crowded(withBook("f>g>h>i>j"), 31, 1, 1);
        crowded(withBook("a>b>a"), 7, 0, 2);
    }

    @Sentence(promise = 17, says = "DAYS: the fewest, of two ways the better one")
    private static void theBetterOfTwoWays() {
        OneWorse x = withBook("a>b>c>d,e>f");
        x.man(0, 1, 1);
        x.man(1, 1, 2);
        x.man(2, 1, 8);
        x.man(3, 1, 4 + 32);
        x.man(4, 1, 16);
        crowded(x, 31, 0, 2);
        crowded(x, 15, 1, 1);
        crowded(x, 24, 1, 1);
        crowded(x, 7, 0, 2);
    }

    @Sentence(promise = 17, says = "each of them can speak once in a QUARREL (in some order) of which all are good")
    private static void theOnlyOrder() {
        int[] order = {3, 0, 4, 1, 2};
        OneWorse x = withBook("j>i>h>g>f");
        for (int place = 0; place < 5; place++) x.man(order[place], 1, 1 << 9 - place);
        crowded(x, 31, 1, 1);
        crowded(x, 31 & ~16, 0, 2);
        // g is said by 1 to 4, who spoke ahead of him
        x.needs(6, 1);
        x.man(4, 0, 62);
        crowded(x, 31, 0, 2);
        x.man(4, 0, 63);
        crowded(x, 31, 1, 1);
        // j is said by 3 to 0, who speaks next, and i by 0 to 3
        x.needs(9, 2);
        x.man(0, 0, 61);
        crowded(x, 31, 0, 2);
        crowded(x, 8, 1, 1);
        x.man(0, 0, 63);
        x.needs(8, 4);
        x.man(3, 0, 59);
        crowded(x, 31, 0, 2);
        x.man(3, 0, 63);
        crowded(x, 31, 1, 1);
    }

    @Sentence(promise = 17, says = "(no others speak)")
    private static void noOthersSpeak() {
        OneWorse x = withBook("a>b>c");
        x.man(0, 1, 1);
        x.man(1, 1, 2);
        x.man(2, 1, 4);
        crowded(x, 7, 1, 1);
        crowded(x, 5, 0, 2);
        crowded(x, 3, 1, 1);
        crowded(x, 6, 1, 1);
    }

    // ---- 18 rings

    private static void ringed(OneWorse x, int inRings, int top) {
        due("rings 0", x.rings(0), inRings);
        due("rings 1", x.rings(1), top);
    }

    @Sentence(promise = 18, says = "IN RINGS (what = 0), TOP (1). OUTSIDE.")
    private static void ringsTakes0And1() {
        takes(0, 1, "rings", OUTSIDE, (x, v) -> x.rings(v));
    }

    @Sentence(promise = 18, says = "INSULTS that come to themselves by STEPS: from none to all, the least ring and the greatest")
    private static void ringsNoneAndAll() {
        ringed(new OneWorse(), 0, 1023);
        ringed(withBook(TEN), 0, 512);
        ringed(withBook(TEN, "j>a"), 1023, 0);
        ringed(withEveryStep(), 1023, 0);
        ringed(withBook("a>b>a"), 3, 1020);
        ringed(withBook("a>j>a"), 513, 510);
        ringed(withBook(TEN, "j>i"), 768, 0);
    }

    @Sentence(promise = 18, says = "A RING: those ahead of it, behind it and between two are in none")
    private static void besideRings() {
        ringed(withBook("a>b>c>b,c>d"), 6, 1023 & ~7);
        ringed(withBook("a>b>a,b>c>d>e>d"), 3 + 24, 1023 & ~31);
        ringed(withBook("j>i>h>j,a>j,h>b"), 512 + 256 + 128, 1023 & ~(512 + 256 + 128 + 1));
    }

    // ---- 19 ladder

    private static void struck(OneWorse x, int... steps) {
        due("ladder -1", x.ladder(-1), steps.length);
        for (int i = 0; i < steps.length; i++) due("ladder " + i, x.ladder(i), steps[i]);
        for (int i : new int[] {steps.length, steps.length + 1, -2, Integer.MIN_VALUE, Integer.MAX_VALUE}) {
            due("ladder " + i, x.ladder(i), NONE);
        }
    }

    @Sentence(promise = 19, says = "how many STEPS are struck (i = -1), the i-th of them; NONE: none is struck")
    private static void noneStruck() {
        struck(new OneWorse());
        struck(withBook(TEN));
        struck(withBook("j>i>h>g>f>e>d>c>b>a"));
    }

    @Sentence(promise = 19, says = "how many STEPS are struck: of each two that go both ways one, the most are 45")
    private static void allStruck() {
        int[] steps = new int[45];
        int many = 0;
        for (int from = 0; from < 10; from++) {
            for (int to = 0; to < from; to++) steps[many++] = 10 * from + to;
        }
        struck(withEveryStep(), steps);
    }

    @Sentence(promise = 19, says = "10 times from and to, by numbers: the least (1, from 0 to 1), the greatest (98, from 9 to 8)")
    private static void theLeastAndTheGreatestStep() {
        struck(withBook("a>b>c>a,j>a"), 1);
        struck(withBook("i>j>i"), 98);
        struck(withBook("a>j>a"), 90);
        struck(withBook("a>b>a,i>j>i"), 10, 98);
    }

    @Sentence(promise = 19, says = "the fewest STEPS to be struck so that no RING is left")
    private static void ladderIsTheFewest() {
        struck(withBook("a>b>c>a,b>d>a"), 1);
        struck(withBook(TEN, "j>a"), 90);
        OneWorse x = withBook("a>b>c>a,b>d>a");
        x.step(0, 1, false);
        struck(x);
        due("rings", x.rings(0), 0);
    }

    @Sentence(promise = 19, says = "of all orders by which so many STEPS go back, the first by numbers")
    private static void theFirstOrder() {
        struck(withBook("a>b>a"), 10);
        struck(withBook("a>b>c>a"), 20);
        struck(withBook("a>c>b>a"), 10);
        struck(withBook("a>c>b>a,j>a"), 21);
        struck(withBook("a>c>b>a,j>a,j>b"), 2);
    }

    @Sentence(promise = 19, says = "LADDER of THE BOOK as it is now, however it became so")
    private static void ladderOfTheBookAsItIs() {
        OneWorse x = new OneWorse();
        struck(x);
        x.image(1);
        x.step(0, 9, true);
        x.step(9, 0, true);
        struck(x, 90);
        x.image(0);
        x.step(9, 0, false);
        struck(x);
        due("join", x.join(0), 2);
        struck(x, 90);
        x.step(0, 9, false);
        struck(x);
        x.restore(0);
        struck(x, 90);
        put(x, "j>i>j");
        x.steps();
        struck(x, 90, 98);
        x.step(8, 9, false);
        x.step(9, 1, true);
        x.step(1, 9, true);
        struck(x, 90, 91);
        x.restore(1);
        struck(x);
        for (int i = 0; i < 10; i++) x.step(i, (i + 1) % 10, true);
        struck(x, 90);
    }

    // ---- 20 between

    @Sentence(promise = 20, says = "with k between (0 to 4); OUTSIDE: k")
    private static void between0To4() {
        takes(0, 4, "between", OUTSIDE, (x, v) -> x.between(0, 9, v, -1));
    }

    @Sentence(promise = 20, says = "UNKNOWN: also both are one; OUTSIDE: UNKNOWN first")
    private static void betweenUnknownFirst() {
        for (int v = 0; v < 10; v++) {
            int one = v;
            refused("between " + v + " " + v, UNKNOWN, x -> x.between(one, one, 1, -1));
        }
        refused("between", UNKNOWN, x -> x.between(10, 0, 5, 0));
        refused("between", UNKNOWN, x -> x.between(0, -1, -1, 0));
        refused("between", UNKNOWN, x -> x.between(3, 3, 5, 0));
    }

    @Sentence(promise = 20, says = "k = 0: the STEP itself, no digits but the 1 ahead; NONE")
    private static void nothingBetween() {
        OneWorse x = withBook("a>b");
        due("between 0 1 0 -1", x.between(0, 1, 0, -1), 1);
        due("between 0 1 0 0", x.between(0, 1, 0, 0), 1);
        due("between 0 1 0 1", x.between(0, 1, 0, 1), NONE);
        due("between 1 0 0 -1", x.between(1, 0, 0, -1), 0);
        due("between 1 0 0 0", x.between(1, 0, 0, 0), NONE);
    }

    @Sentence(promise = 20, says = "how many ways (i = -1), the i-th's INSULTS between: the first, the last, and NONE beside them")
    private static void theFirstAndTheLastWay() {
        OneWorse x = withEveryStep();
        int[] ways = {1, 8, 56, 336, 1680};
        int[] first = {1, 10, 101, 1012, 10123};
        int[] last = {1, 17, 176, 1765, 17654};
        for (int k = 0; k <= 4; k++) {
            due("between 8 9 " + k + " -1", x.between(8, 9, k, -1), ways[k]);
            due("between 8 9 " + k + " 0", x.between(8, 9, k, 0), first[k]);
            due("between 8 9 " + k + ", the last", x.between(8, 9, k, ways[k] - 1), last[k]);
            due("between 8 9 " + k + ", one more", x.between(8, 9, k, ways[k]), NONE);
            for (int i : new int[] {-2, Integer.MIN_VALUE, Integer.MAX_VALUE}) {
                due("between 8 9 " + k + " " + i, x.between(8, 9, k, i), NONE);
            }
        }
        due("between 0 1 4, the last", x.between(0, 1, 4, 1679), 19876);
    }

    @Sentence(promise = 20, says = "no way: none (i = -1: 0), the 0th is NONE")
    private static void noWay() {
        OneWorse x = new OneWorse();
        for (int k = 0; k <= 4; k++) {
            due("between 0 9 " + k + " -1", x.between(0, 9, k, -1), 0);
            due("between 0 9 " + k + " 0", x.between(0, 9, k, 0), NONE);
        }
        x = withBook("a>b>c>d>e>f>g");
        due("between 0 5 4 0, the longest", x.between(0, 5, 4, 0), 11234);
        due("between 0 5 3 -1, too short", x.between(0, 5, 3, -1), 0);
        due("between 0 4 4 -1, too long", x.between(0, 4, 4, -1), 0);
    }

    @Sentence(promise = 20, says = "all unlike: no INSULT between is one of the ends, or twice")
    private static void allUnlike() {
        OneWorse x = withBook("a>b>a,b>c");
        due("between 0 2 1 -1", x.between(0, 2, 1, -1), 1);
        due("between 0 2 3 -1, by a again", x.between(0, 2, 3, -1), 0);
        x = withBook("a>b>c>b,c>d");
        due("between 0 3 2 -1", x.between(0, 3, 2, -1), 1);
        due("between 0 3 4 -1, b and c twice", x.between(0, 3, 4, -1), 0);
        x = withBook("a>b>c>b");
        due("between 0 1 2 -1, by b", x.between(0, 1, 2, -1), 0);
    }

    // ---- 21 high

    @Sentence(promise = 21, says = "the most STEPS one behind another: from 0 (TOP) to 9, no INSULT twice")
    private static void highFrom0To9() {
        OneWorse x = withBook(TEN);
        for (int i = 0; i < 10; i++) due("high " + i, x.high(i), 9 - i);
        put(x, "j>a");
        x.steps();
        for (int i = 0; i < 10; i++) due("high " + i + " of the ring", x.high(i), 9);
        due("high of every step", withEveryStep().high(4), 9);
        due("high of none", new OneWorse().high(0), 0);
        x = withBook("a>b>a");
        due("high 0 of two", x.high(0), 1);
        due("high 1 of two", x.high(1), 1);
    }

    @Sentence(promise = 21, says = "HIGH: by THE BOOK alone, whatever MEN KNOW and INSULTS NEED")
    private static void highWithoutMen() {
        OneWorse x = withBook(TEN);
        for (int i = 0; i < 10; i++) x.needs(i, 63);
        for (int m = 0; m < 5; m++) {
            x.man(m, 0, 0);
            x.man(m, 1, 0);
        }
        due("high 0", x.high(0), 9);
    }

    // ---- 22 image

    @Sentence(promise = 22, says = "an IMAGE (0, 1): 1. OUTSIDE.")
    private static void images0And1() {
        takes(0, 1, "image", OUTSIDE, (x, v) -> x.image(v));
        for (Start start : Start.values()) {
            due("image 0", start.made().image(0), 1);
            due("image 1", start.made().image(1), 1);
        }
    }

    @Sentence(promise = 22, says = "All but the PAD is kept: of an object that is new")
    private static void anEmptyImage() {
        for (int n = 0; n < 2; n++) {
            OneWorse x = new OneWorse(), y = new OneWorse();
            x.image(n);
            y.image(n);
            x.step(9, 0, true);
            x.needs(9, 63);
            x.man(4, 0, 0);
            x.man(4, 1, 0);
            due("restore " + n, x.restore(n), 1);
            same("keeping and changing", x, y);
            due("the other one is not kept", y.restore(1 - n), STATE);
        }
    }

    @Sentence(promise = 22, says = "All but the PAD is kept in an IMAGE: each part of it, from the first to the last")
    private static void allPartsAreKept() {
        for (int n = 0; n < 2; n++) {
            OneWorse x = withEveryStep();
            for (int i = 0; i < 10; i++) x.needs(i, 50 + i);
            for (int m = 0; m < 5; m++) {
                x.man(m, 0, 40 + m);
                x.man(m, 1, 900 + m);
            }
            x.image(n);
            for (int i = 0; i < 10; i++) {
                x.needs(i, 0);
                x.step(i, i == 0 ? 9 : 0, false);
            }
            for (int m = 0; m < 5; m++) {
                x.man(m, 0, 63);
                x.man(m, 1, 1023);
            }
            x.restore(n);
            due("steps", x.told(1), 90);
            for (int i = 0; i < 10; i++) {
                due("steps from " + i, x.told(40 + i), 1023 & ~(1 << i));
                due("needs of " + i, x.told(10 + i), 50 + i);
            }
            for (int m = 0; m < 5; m++) {
                due("traits of " + m, x.told(20 + m), 40 + m);
                due("knows of " + m, x.told(30 + m), 900 + m);
            }
        }
    }

    @Sentence(promise = 22, says = "kept in an IMAGE (0, 1): they are two, and the later one takes the place of the earlier")
    private static void twoImagesKeptAnew() {
        OneWorse x = withBook("a>b");
        x.image(0);
        x.step(1, 2, true);
        x.image(1);
        x.step(2, 3, true);
        x.image(1);
        x.step(3, 4, true);
        x.restore(0);
        due("steps of image 0", x.told(1), 1);
        x.restore(1);
        due("steps of image 1", x.told(1), 3);
    }

    // ---- 23 restore

    @Sentence(promise = 23, says = "OUTSIDE; STATE: it was not (kept). OUTSIDE first")
    private static void restoreOfNone() {
        takes(0, 1, "restore", OUTSIDE, (x, v) -> x.restore(v));
        refusedAt(Start.NEW, "restore 0", STATE, x -> x.restore(0));
        refusedAt(Start.NEW, "restore 1", STATE, x -> x.restore(1));
        refusedAt(Start.LIVELY, "restore 1", STATE, x -> x.restore(1));
        refusedAt(Start.NEW, "restore 2", OUTSIDE, x -> x.restore(2));
        refusedAt(Start.NEW, "restore -1", OUTSIDE, x -> x.restore(-1));
    }

    @Sentence(promise = 23, says = "It is as it was when it was kept: but the PAD, empty or full, is as it is")
    private static void restoreLeavesThePad() {
        OneWorse x = padOf(FULL_TEXT);
        x.image(0);
        due("restore, full", x.restore(0), 1);
        due("signs", x.told(0), 40);
        due("fault", x.fault(1), NONE);
        x.wipe();
        due("restore, empty", x.restore(0), 1);
        due("signs", x.told(0), 0);
        put(x, "a>b");
        due("restore", x.restore(0), 1);
        due("fault", x.fault(0), NONE);
        due("steps", x.steps(), 1);
    }

    @Sentence(promise = 23, says = "It is as it was when it was kept: again and again")
    private static void restoreTwice() {
        OneWorse x = withBook("a>b");
        x.image(1);
        for (int times = 0; times < 3; times++) {
            x.step(0, 1, false);
            x.needs(0, 5);
            x.man(0, 0, 6);
            x.man(0, 1, 7);
            due("restore", x.restore(1), 1);
            due("from a", x.told(40), 2);
            due("needs", x.told(10), 0);
            due("traits", x.told(20), 63);
            due("knows", x.told(30), 1023);
        }
    }

    // ---- 24 join

    @Sentence(promise = 24, says = "OUTSIDE; STATE, likewise. OUTSIDE first")
    private static void joinOfNone() {
        takes(0, 1, "join", OUTSIDE, (x, v) -> x.join(v));
        refusedAt(Start.NEW, "join 0", STATE, x -> x.join(0));
        refusedAt(Start.NEW, "join 1", STATE, x -> x.join(1));
        refusedAt(Start.LIVELY, "join 1", STATE, x -> x.join(1));
        refusedAt(Start.NEW, "join 2", OUTSIDE, x -> x.join(2));
        refusedAt(Start.NEW, "join -1", OUTSIDE, x -> x.join(-1));
    }

    @Sentence(promise = 24, says = "STEPS of an IMAGE's BOOK are in THE BOOK, too: a BOOK that is empty, the same one, one with all")
    private static void joinEmptySameAndAll() {
        OneWorse x = new OneWorse();
        x.image(0);
        due("none and none", x.join(0), 0);
        x.step(0, 9, true);
        due("one and none", x.join(0), 1);
        x.image(1);
        due("one and the same", x.join(1), 1);
        x.step(0, 9, false);
        due("none and one", x.join(1), 1);
        due("from a", x.told(40), 512);
        x = withEveryStep();
        x.image(0);
        due("all and all", x.join(0), 90);
        for (int i = 0; i < 10; i++) x.step(i, i == 9 ? 0 : 9, false);
        due("some and all", x.join(0), 90);
    }

    @Sentence(promise = 24, says = "STEPS of an IMAGE's BOOK: nothing else of it, and the IMAGE and the PAD stay")
    private static void joinTakesStepsAlone() {
        OneWorse x = withBook("a>b"), y = withBook("a>b", "c>d");
        for (OneWorse one : new OneWorse[] {x, y}) {
            one.step(2, 3, false);
            one.needs(3, 7);
            one.man(3, 0, 8);
            one.man(3, 1, 9);
            one.image(1);
            one.needs(3, 1);
            one.man(3, 0, 2);
            one.man(3, 1, 3);
            one.step(2, 3, true);
            put(one, "e>f");
        }
        x.step(0, 1, false);
        due("join", x.join(1), 2);
        same("join", x, y);
    }

    // ---- 25 told

    @Sentence(promise = 25, says = "0, 1, 10 to 19, 20 to 24, 30 to 34, 40 to 49. OUTSIDE.")
    private static void toldTakes() {
        for (int v = -70; v <= 120; v++) {
            boolean taken = v == 0 || v == 1 || v >= 10 && v <= 24 || v >= 30 && v <= 34 || v >= 40 && v <= 49;
            int what = v;
            checks++;
            if ((Start.LIVELY.made().told(v) != OUTSIDE) != taken) fail("told " + v + ", taken: " + !taken);
            if (!taken) refusedAt(Start.LIVELY, "told " + v, OUTSIDE, x -> x.told(what));
        }
        for (int v : new int[] {Integer.MIN_VALUE, Integer.MIN_VALUE + 10, Integer.MAX_VALUE, 1 << 30, 1024 + 10}) {
            refused("told " + v, OUTSIDE, x -> x.told(v));
        }
    }

    @Sentence(promise = 25, says = "0 signs, 1 STEPS: none, the most")
    private static void toldSignsAndSteps() {
        OneWorse x = withEveryStep();
        due("no signs", x.told(0), 0);
        due("all steps", x.told(1), 90);
        put(x, FULL_TEXT);
        due("all signs", x.told(0), 40);
        due("steps stay", x.told(1), 90);
        x = padOf("a");
        due("one sign", x.told(0), 1);
        due("no steps", x.told(1), 0);
    }

    @Sentence(promise = 25, says = "what INSULTS NEED, TRAITS, what MEN KNOW, STEPS, as bits: the least and the most of the first and the last one")
    private static void toldOfTheFirstAndTheLast() {
        OneWorse x = new OneWorse();
        x.needs(0, 63);
        x.man(0, 0, 0);
        x.man(0, 1, 0);
        for (int to = 1; to < 10; to++) x.step(0, to, true);
        due("needs of 0", x.told(10), 63);
        due("needs of 9", x.told(19), 0);
        due("traits of 0", x.told(20), 0);
        due("traits of 4", x.told(24), 63);
        due("knows of 0", x.told(30), 0);
        due("knows of 4", x.told(34), 1023);
        due("steps from 0", x.told(40), 1022);
        due("steps from 9", x.told(49), 0);
        x.needs(9, 62);
        x.man(4, 0, 61);
        x.man(4, 1, 1022);
        for (int to = 0; to < 9; to++) x.step(9, to, true);
        due("needs of 9", x.told(19), 62);
        due("traits of 4", x.told(24), 61);
        due("knows of 4", x.told(34), 1022);
        due("steps from 9", x.told(49), 511);
    }
}
