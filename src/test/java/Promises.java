/** Each promise of the document: ordinary inputs, the edges it names, and what is refused. */
public final class Promises {
    private static final int NONE = OneWorse.NONE, UNKNOWN = OneWorse.UNKNOWN, OUTSIDE = OneWorse.OUTSIDE;
    private static final int STATE = OneWorse.STATE, FULL = OneWorse.FULL, NO = OneWorse.NO;
    private static final int[] NO_MEN = {-1, 5, Integer.MIN_VALUE, Integer.MAX_VALUE};
    private static final int[] NO_INSULTS = {-1, 10, 32, Integer.MIN_VALUE, Integer.MAX_VALUE};

    private static int wrong = 0;
    private static int checks = 0;

    public static void main(String[] args) {
        constants();
        promise1NewObject();
        promise2Say();
        promise3Wipe();
        promise4FaultAsSteps();
        promise4FaultAsQuarrel();
        promise5Steps();
        promise6Step();
        promise7Needs();
        promise8Man();
        promise9Fit();
        promise10Judge();
        promise10JudgeHearers();
        promise11Match();
        promise11MatchWishes();
        promise12Middle();
        promise13Last();
        promise14Sent();
        promise15Safe();
        promise16Worth();
        promise17CrowdDay();
        promise17CrowdDays();
        promise18Rings();
        promise19Ladder();
        promise20Between();
        promise21High();
        promise22Image();
        promise23Restore();
        promise24Join();
        promise25Told();
        refusalsChangeNothing();
        System.out.println(checks + " checks, " + wrong + " wrong");
        if (wrong != 0) System.exit(1);
    }

    private static void due(String call, int got, int want) {
        checks++;
        if (got == want) return;
        wrong++;
        System.out.println(call + " answered " + got + ", due is " + want);
    }

    private static void put(OneWorse x, String text) {
        x.wipe();
        for (int i = 0; i < text.length(); i++) {
            due("say in " + text, x.say(text.charAt(i)), i + 1);
        }
    }

    private static OneWorse withBook(String... texts) {
        OneWorse x = new OneWorse();
        for (String text : texts) {
            put(x, text);
            x.steps();
        }
        return x;
    }

    private static void constants() {
        due("NONE", NONE, -6);
        due("UNKNOWN", UNKNOWN, -1);
        due("OUTSIDE", OUTSIDE, -2);
        due("STATE", STATE, -3);
        due("FULL", FULL, -4);
        due("NO", NO, -5);
    }

    private static void promise1NewObject() {
        OneWorse x = new OneWorse();
        due("1 signs", x.told(0), 0);
        due("1 steps", x.told(1), 0);
        for (int i = 0; i < 10; i++) {
            due("1 needs", x.told(10 + i), 0);
            due("1 steps from", x.told(40 + i), 0);
        }
        for (int m = 0; m < 5; m++) {
            due("1 traits", x.told(20 + m), 63);
            due("1 knows", x.told(30 + m), 1023);
            due("1 fit", x.fit(m), 1023);
        }
        due("1 no image", x.restore(0), STATE);
        due("1 no image", x.restore(1), STATE);
    }

    private static void promise2Say() {
        OneWorse x = new OneWorse();
        for (int bad : new int[] {32, 127, 0, -1, Integer.MIN_VALUE, Integer.MAX_VALUE}) {
            due("2 say " + bad, x.say(bad), OUTSIDE);
        }
        due("2 say 33", x.say(33), 1);
        due("2 say 126", x.say(126), 2);
        for (int i = 3; i <= 40; i++) due("2 say more", x.say('a'), i);
        due("2 full", x.say('a'), FULL);
        due("2 outside ahead of full", x.say(32), OUTSIDE);
        due("2 still 40", x.told(0), 40);
    }

    private static void promise3Wipe() {
        OneWorse x = new OneWorse();
        due("3 empty", x.wipe(), 0);
        put(x, "xyz");
        due("3 three", x.wipe(), 3);
        due("3 gone", x.wipe(), 0);
        due("3 told", x.told(0), 0);
        due("3 from the beginning", x.say('a'), 1);
    }

    private static void fault(int how, String text, int want) {
        OneWorse x = new OneWorse();
        put(x, text);
        due("4 fault " + how + " of " + text, x.fault(how), want);
        due("4 the pad stays", x.told(0), text.length());
    }

    private static void promise4FaultAsSteps() {
        fault(0, "", 0);
        fault(0, "a", 1);
        fault(0, "a>", 2);
        fault(0, "a>b", NONE);
        fault(0, "a>b>", 4);
        fault(0, "a>b>a", NONE);
        fault(0, "a>b>b", 4);
        fault(0, "a>a", 2);
        fault(0, "a,", 1);
        fault(0, "a>b,", 4);
        fault(0, "a>b,b", 5);
        fault(0, "a>b,b>c", NONE);
        fault(0, "a>b,b,", 5);
        fault(0, "a>b,,", 4);
        fault(0, "a>b,c>c", 6);
        fault(0, ",a>b", 0);
        fault(0, ">a", 0);
        fault(0, "k", 0);
        fault(0, "j>i", NONE);
        fault(0, "a>k", 2);
        fault(0, "a>`", 2);
        fault(0, "A>b", 0);
        fault(0, "ab", 1);
        fault(0, "a>bc", 3);
        fault(0, "0a1b", 0);
        fault(0, "a>b,a>b,a>b,a>b,a>b,a>b,a>b,a>b,a>b,a>b,", 40);
        for (int bad : new int[] {-1, 2, Integer.MAX_VALUE, Integer.MIN_VALUE}) {
            due("4 how", new OneWorse().fault(bad), OUTSIDE);
        }
    }

    private static void promise4FaultAsQuarrel() {
        fault(1, "", 0);
        fault(1, "0", 1);
        fault(1, "0a", NONE);
        fault(1, "0a1", 3);
        fault(1, "0a1b", NONE);
        fault(1, "0a0b", 2);
        fault(1, "0a1a0a", NONE);
        fault(1, "0a1b2c2d", 6);
        fault(1, "5a", 0);
        fault(1, "4j", NONE);
        fault(1, "4k", 1);
        fault(1, "/a", 0);
        fault(1, "a", 0);
        fault(1, "00", 1);
        fault(1, "0aa", 2);
        fault(1, "0a,1b", 2);
        fault(1, "0a1b0c1d0e1f0g1h0i1j0a1b0c1d0e1f0g1h0i1j", NONE);
        fault(1, "0a1b0c1d0e1f0g1h0i1j0a1b0c1d0e1f0g1h0i1!", 39);
    }

    private static void promise5Steps() {
        OneWorse x = new OneWorse();
        due("5 empty", x.steps(), NO);
        put(x, "a>b>c,j>a");
        due("5 three", x.steps(), 3);
        due("5 the pad is empty", x.told(0), 0);
        due("5 a", x.told(40), 2);
        due("5 b", x.told(41), 4);
        due("5 c", x.told(42), 0);
        due("5 j", x.told(49), 1);
        put(x, "a>b,c>b>a,a>b");
        due("5 two more", x.steps(), 5);
        due("5 c to b", x.told(42), 2);
        put(x, "a>b,d");
        due("5 fault", x.steps(), NO);
        due("5 the pad stays", x.told(0), 5);
        due("5 nothing changed", x.told(1), 5);
        put(x, "0a1b");
        due("5 a quarrel is none", x.steps(), NO);
    }

    private static void promise6Step() {
        OneWorse x = new OneWorse();
        due("6 new", x.step(0, 9, true), 0);
        due("6 was", x.step(0, 9, true), 1);
        due("6 one way only", x.told(49), 0);
        due("6 it is", x.told(40), 512);
        due("6 struck", x.step(0, 9, false), 1);
        due("6 was not", x.step(0, 9, false), 0);
        due("6 gone", x.told(1), 0);
        for (int bad : NO_INSULTS) {
            due("6 from", x.step(bad, 0, true), UNKNOWN);
            due("6 to", x.step(0, bad, true), UNKNOWN);
        }
        for (int i = 0; i < 10; i++) due("6 both one", x.step(i, i, true), UNKNOWN);
        due("6 none came", x.told(1), 0);
        for (int i = 0; i < 10; i++) {
            for (int j = 0; j < 10; j++) {
                if (i != j) x.step(i, j, true);
            }
        }
        due("6 all", x.told(1), 90);
    }

    private static void promise7Needs() {
        OneWorse x = new OneWorse();
        due("7 was none", x.needs(3, 63), 0);
        due("7 was all", x.needs(3, 5), 63);
        due("7 told", x.told(13), 5);
        due("7 of others", x.told(12), 0);
        due("7 outside", x.needs(3, 64), OUTSIDE);
        due("7 outside", x.needs(3, -1), OUTSIDE);
        due("7 nothing changed", x.needs(3, 0), 5);
        for (int bad : NO_INSULTS) due("7 unknown first", x.needs(bad, 64), UNKNOWN);
    }

    private static void promise8Man() {
        OneWorse x = new OneWorse();
        due("8 traits", x.man(4, 0, 0), 63);
        due("8 traits", x.man(4, 0, 63), 0);
        due("8 knows", x.man(4, 1, 0), 1023);
        due("8 knows", x.man(4, 1, 1023), 0);
        due("8 traits of others", x.told(23), 63);
        x.man(0, 0, 7);
        x.man(0, 1, 9);
        due("8 told", x.told(20), 7);
        due("8 told", x.told(30), 9);
        due("8 outside traits", x.man(0, 0, 64), OUTSIDE);
        due("8 outside traits", x.man(0, 0, -1), OUTSIDE);
        due("8 knows may be more", x.man(0, 1, 64), 9);
        due("8 outside knows", x.man(0, 1, 1024), OUTSIDE);
        due("8 outside knows", x.man(0, 1, -1), OUTSIDE);
        due("8 outside what", x.man(0, 2, 0), OUTSIDE);
        due("8 outside what", x.man(0, -1, 0), OUTSIDE);
        for (int bad : NO_MEN) due("8 unknown first", x.man(bad, 2, -1), UNKNOWN);
        due("8 nothing changed", x.told(20), 7);
        due("8 nothing changed", x.told(30), 64);
    }

    private static void promise9Fit() {
        OneWorse x = new OneWorse();
        x.needs(0, 1);
        x.needs(1, 3);
        x.needs(9, 32);
        x.man(2, 0, 1);
        x.man(3, 0, 0);
        due("9 all", x.fit(0), 1023);
        due("9 one trait", x.fit(2), 1023 - 2 - 512);
        due("9 no trait", x.fit(3), 1023 - 1 - 2 - 512);
        x.man(3, 0, 35);
        due("9 those", x.fit(3), 1023);
        x.man(3, 1, 0);
        due("9 what he knows is nothing to it", x.fit(3), 1023);
        for (int bad : NO_MEN) due("9 unknown", x.fit(bad), UNKNOWN);
    }

    private static void judged(OneWorse x, String text, int place, int why) {
        put(x, text);
        due("10 place in " + text, x.judge(0), place);
        due("10 why in " + text, x.judge(1), why);
        due("10 the pad stays", x.told(0), text.length());
    }

    private static void promise10Judge() {
        OneWorse x = withBook("a>b>c>d>a,b>a");
        judged(x, "0a", NONE, NONE);
        judged(x, "0a1b2c3d", NONE, NONE);
        judged(x, "0a1b0c1d", NONE, NONE);
        judged(x, "0a1c", 1, 1);
        judged(x, "0a1b0a", 2, 2);
        judged(x, "0a1a", 1, 1);
        judged(x, "0a1b0d1a", 2, 1);
        judged(x, "0a1b0c1d0a", 4, 2);
        put(x, "");
        due("10 empty", x.judge(0), NO);
        put(x, "0a1");
        due("10 fault", x.judge(1), NO);
        due("10 outside first", x.judge(2), OUTSIDE);
        due("10 outside", x.judge(-1), OUTSIDE);
    }

    private static void promise10JudgeHearers() {
        OneWorse x = withBook("a>b>c>d");
        x.needs(0, 1);
        x.needs(1, 2);
        x.man(1, 0, 62);
        judged(x, "0a1b", 0, 3);
        judged(x, "0a", NONE, NONE);
        judged(x, "0a2b1c", NONE, NONE);
        x.man(0, 0, 61);
        judged(x, "0a2b", 1, 3);
        judged(x, "2a0b", NONE, NONE);
        x.man(0, 1, 1021);
        judged(x, "2a0b", 1, 4);
        judged(x, "0b", 0, 4);
        judged(x, "0b1c", 0, 4);
        x.man(1, 0, 61);
        judged(x, "0b1c", 0, 3);
        x.man(2, 1, 0);
        judged(x, "0a2b", 1, 3);
        judged(x, "0a2d", 1, 1);
        // the third one is said to the second one, not to who comes after
        OneWorse y = withBook("a>b>c>d");
        y.needs(2, 4);
        y.man(3, 0, 0);
        judged(y, "0a1b2c3d", NONE, NONE);
        judged(y, "0a3b2c1d", 2, 3);
    }

    private static void matched(OneWorse x, int man, int other, int pays, int many, int opens) {
        due("11 who pays " + man + other, x.match(man, other, 0), pays);
        due("11 how many " + man + other, x.match(man, other, 1), many);
        due("11 opens " + man + other, x.match(man, other, 2), opens);
    }

    private static void promise11Match() {
        OneWorse x = new OneWorse();
        matched(x, 0, 1, 1, 1, 0);
        x.man(0, 1, 0);
        matched(x, 0, 1, 0, 0, NONE);
        matched(x, 1, 0, 0, 1, 0);
        x = withBook("a>b>c>d");
        matched(x, 0, 1, 1, 1, 3);
        x.man(3, 1, 1);
        matched(x, 3, 4, 3, 2, 0);
        x.needs(3, 8);
        x.man(2, 0, 7);
        matched(x, 1, 2, 2, 1, 4);
        x.man(1, 1, 15);
        matched(x, 1, 2, 1, 4, 0);
        for (int bad : NO_MEN) {
            due("11 unknown", x.match(bad, 0, 3), UNKNOWN);
            due("11 unknown", x.match(0, bad, 3), UNKNOWN);
        }
        for (int m = 0; m < 5; m++) due("11 both one", x.match(m, m, 0), UNKNOWN);
        due("11 outside", x.match(0, 1, 3), OUTSIDE);
        due("11 outside", x.match(0, 1, -1), OUTSIDE);
    }

    private static void promise11MatchWishes() {
        // he who loses keeps it up: of a (one answer) and b (three more) he opens with b
        OneWorse x = withBook("a>j,b>c>d>e");
        x.man(0, 1, 1 + 2 + 8);
        x.man(1, 1, 512 + 4 + 16);
        matched(x, 0, 1, 0, 4, 1);
        // he who wins makes it short: of a (three in all) and b (one) he opens with b
        x = withBook("a>c>d,c>e");
        x.man(0, 1, 1 + 2 + 8 + 16);
        x.man(1, 1, 4);
        matched(x, 0, 1, 1, 1, 1);
        x.man(0, 1, 1 + 8 + 16);
        matched(x, 0, 1, 1, 1, 3);
        x.man(0, 1, 1);
        matched(x, 0, 1, 0, 2, 0);
        // to win comes ahead of length: short loss or long win
        x = withBook("a>b,a>c,b>d,c>e,d>f");
        x.man(0, 1, 1);
        x.man(1, 1, 2 + 4);
        matched(x, 0, 1, 0, 2, 0);
        x.man(0, 1, 1 + 8);
        x.needs(3, 1);
        due("fits", x.fit(1), 1023);
        matched(x, 0, 1, 1, 1, 3);
        // nothing twice: a ring of three
        x = withBook("a>b>c>a");
        x.man(0, 1, 7);
        x.man(1, 1, 7);
        matched(x, 0, 1, 1, 3, 0);
    }

    private static void middling(OneWorse x, int insult, int fallen, int pays, int more, int answer) {
        due("12 who pays", x.middle(0, 1, insult, fallen, 0), pays);
        due("12 how many more", x.middle(0, 1, insult, fallen, 1), more);
        due("12 answers", x.middle(0, 1, insult, fallen, 2), answer);
    }

    private static void promise12Middle() {
        OneWorse x = withBook("a>b>c>d>e,a>c");
        middling(x, 0, 1, 1, 3, 2);
        middling(x, 1, 3, 1, 3, 2);
        middling(x, 2, 4, 0, 2, 3);
        middling(x, 2, 12, 0, 0, NONE);
        middling(x, 2, 4 + 16, 1, 1, 3);
        middling(x, 4, 16, 0, 0, NONE);
        middling(x, 9, 1023, 0, 0, NONE);
        x.man(1, 0, 0);
        x.needs(2, 1);
        middling(x, 0, 1, 0, 4, 1);
        x.man(0, 1, 0);
        middling(x, 0, 1, 0, 0, NONE);
        due("12 his insult need not be his", x.middle(1, 0, 0, 1, 0), 0);
        for (int bad : NO_MEN) {
            due("12 unknown", x.middle(bad, 0, 0, 1, 0), UNKNOWN);
            due("12 unknown", x.middle(0, bad, 0, 1, 0), UNKNOWN);
        }
        for (int bad : NO_INSULTS) due("12 unknown", x.middle(0, 1, bad, 0, 3), UNKNOWN);
        due("12 both one", x.middle(2, 2, 0, 1, 0), UNKNOWN);
        due("12 not among those", x.middle(0, 1, 0, 2, 0), OUTSIDE);
        due("12 none fell", x.middle(0, 1, 0, 0, 0), OUTSIDE);
        due("12 fallen", x.middle(0, 1, 0, 1025, 0), OUTSIDE);
        due("12 fallen", x.middle(0, 1, 0, -1, 0), OUTSIDE);
        due("12 what", x.middle(0, 1, 0, 1, 3), OUTSIDE);
        due("12 what", x.middle(0, 1, 0, 1, -1), OUTSIDE);
    }

    private static void lasting(OneWorse x, int man, int other, int most, int opens) {
        due("13 last " + man + other, x.last(man, other, 0), most);
        due("13 opening " + man + other, x.last(man, other, 1), opens);
    }

    private static void promise13Last() {
        OneWorse x = new OneWorse();
        lasting(x, 0, 1, 1, 0);
        x = withBook("b>c>d>e,a>b");
        lasting(x, 0, 1, 5, 0);
        x.man(0, 1, 2 + 8);
        lasting(x, 0, 1, 4, 1);
        lasting(x, 1, 0, 5, 0);
        x.man(0, 1, 4 + 8);
        lasting(x, 0, 1, 2, 2);
        lasting(x, 1, 0, 3, 1);
        x.man(0, 1, 0);
        lasting(x, 0, 1, 0, NONE);
        lasting(x, 1, 0, 1, 0);
        x = withBook("a>b>c>d>e>f>g>h>i>j>a");
        lasting(x, 0, 1, 10, 0);
        x.needs(0, 1);
        x.man(1, 0, 62);
        lasting(x, 0, 1, 10, 1);
        lasting(x, 1, 0, 10, 0);
        for (int bad : NO_MEN) {
            due("13 unknown", x.last(bad, 0, 0), UNKNOWN);
            due("13 unknown", x.last(0, bad, 2), UNKNOWN);
        }
        due("13 both one", x.last(3, 3, 0), UNKNOWN);
        due("13 outside", x.last(0, 1, 2), OUTSIDE);
        due("13 outside", x.last(0, 1, -1), OUTSIDE);
    }

    private static void promise14Sent() {
        OneWorse x = new OneWorse();
        due("14 all who open", x.sent(2, true), 27);
        due("14 none who answers", x.sent(2, false), 0);
        x.man(0, 1, 0);
        due("14 he knows nothing", x.sent(2, true), 26);
        due("14 against him", x.sent(0, false), 30);
        x = withBook("a>b>c>d");
        x.man(0, 1, 5);
        x.man(1, 1, 10);
        due("14 who open", x.sent(1, true), 28);
        due("14 who answer", x.sent(0, false), 30);
        due("14 who answer him who wins", x.sent(1, false), 0);
        for (int bad : NO_MEN) due("14 unknown", x.sent(bad, true), UNKNOWN);
    }

    private static void promise15Safe() {
        OneWorse x = new OneWorse();
        due("15 not", x.safe(0), 0);
        for (int i = 0; i < 10; i++) x.needs(i, 1);
        x.man(0, 0, 62);
        due("15 nothing fits", x.safe(0), 1);
        due("15 others", x.safe(1), 0);
        x.needs(9, 2);
        due("15 one fits", x.safe(0), 0);
        for (int m = 1; m < 5; m++) x.man(m, 1, 511);
        due("15 only he knows it", x.safe(0), 1);
        x.man(4, 1, 512);
        due("15 one other knows it", x.safe(0), 0);
        for (int m = 1; m < 5; m++) x.man(m, 1, 0);
        due("15 who alone knows all", x.safe(0), 1);
        due("15 he is one for the others", x.safe(1), 0);
        for (int bad : NO_MEN) due("15 unknown", x.safe(bad), UNKNOWN);
    }

    private static void promise16Worth() {
        OneWorse x = new OneWorse();
        x.man(0, 1, 0);
        due("16 to open with it", x.worth(5, 0), 104);
        due("16 nothing is kept", x.told(30), 0);
        x.needs(5, 1);
        x.man(1, 0, 0);
        x.man(2, 0, 2);
        due("16 it fits two", x.worth(5, 0), 102);
        x = withBook("a>b");
        x.man(0, 1, 0);
        for (int m = 1; m < 5; m++) x.man(m, 1, 1);
        due("16 opening, answering", x.worth(1, 0), 108);
        due("16 opening: he opens, they can not answer", x.worth(0, 0), 104);
        x.man(0, 1, 1);
        due("16 answering only", x.worth(1, 0), 104);
        due("16 nothing more", x.worth(9, 0), 100);
        due("16 he knows it", x.worth(0, 0), STATE);
        for (int bad : NO_MEN) due("16 unknown", x.worth(0, bad), UNKNOWN);
        for (int bad : NO_INSULTS) due("16 unknown", x.worth(bad, 0), UNKNOWN);
    }

    private static void promise17CrowdDay() {
        OneWorse x = new OneWorse();
        due("17 none can", x.crowd(0, 0), 1);
        due("17 one can", x.crowd(8, 0), 1);
        due("17 two can not", x.crowd(9, 0), 0);
        x.man(3, 1, 0);
        due("17 he knows nothing", x.crowd(8, 0), 0);
        x = withBook("a>b>c");
        due("17 three", x.crowd(7, 0), 1);
        due("17 four", x.crowd(15, 0), 0);
        x.man(0, 1, 4);
        x.man(1, 1, 1);
        due("17 the order is theirs", x.crowd(7, 0), 1);
        x.man(2, 1, 5);
        due("17 who says b?", x.crowd(7, 0), 0);
        due("17 two of them", x.crowd(3, 0), 0);
        // never one that fell: a, b and no third one
        x = withBook("a>b>a,c>d>c");
        due("17 nothing twice", x.crowd(7, 0), 0);
        due("17 nothing twice", x.crowd(3, 0), 1);
        due("17 nothing twice", x.crowd(7, 1), 2);
        due("17 nothing twice", x.crowd(31, 1), 3);
        put(x, "j>d");
        x.steps();
        due("17 j, d, c", x.crowd(7, 0), 1);
        due("17 no fourth one", x.crowd(15, 0), 0);
        // the first one is said to who speaks next, the others to who spoke ahead
        x = withBook("a>b");
        x.needs(0, 1);
        x.needs(1, 2);
        x.man(0, 0, 1);
        x.man(1, 0, 2);
        due("17 1 opens", x.crowd(3, 0), 1);
        x.man(0, 0, 2);
        due("17 a does not fit either", x.crowd(3, 0), 0);
        x.man(1, 0, 1);
        due("17 0 opens", x.crowd(3, 0), 1);
        x.man(0, 1, 2);
        x.man(1, 1, 1);
        due("17 1 would have to", x.crowd(3, 0), 0);
        due("17 outside", x.crowd(32, 0), OUTSIDE);
        due("17 outside", x.crowd(-1, 0), OUTSIDE);
        due("17 outside", x.crowd(0, 2), OUTSIDE);
        due("17 outside", x.crowd(0, -1), OUTSIDE);
    }

    private static void promise17CrowdDays() {
        OneWorse x = new OneWorse();
        due("17 no days", x.crowd(0, 1), 0);
        due("17 a day each", x.crowd(31, 1), 5);
        due("17 a day each", x.crowd(20, 1), 2);
        x = withBook("a>b");
        due("17 by twos", x.crowd(31, 1), 3);
        due("17 by twos", x.crowd(30, 1), 2);
        put(x, "b>c");
        x.steps();
        due("17 by threes", x.crowd(31, 1), 2);
        put(x, "c>d>e");
        x.steps();
        due("17 all", x.crowd(31, 1), 1);
        x.man(2, 1, 32);
        due("17 one by himself", x.crowd(31, 1), 2);
        x.man(2, 1, 0);
        due("17 one never", x.crowd(31, 1), NONE);
        due("17 the others", x.crowd(27, 1), 1);
        // 0 only b, 1 only a, 2 only c: 0 and 2 need not 1; 1 and 2 need 0 between
        x = withBook("a>b>c");
        x.man(0, 1, 2);
        x.man(1, 1, 1);
        x.man(2, 1, 4);
        due("17 three", x.crowd(7, 1), 1);
        due("17 without the middle", x.crowd(6, 0), 0);
        due("17 without the middle", x.crowd(6, 1), 2);
        // 0, 2 and 1 by a, b, c, then 3 and 4 by d, e; 2 could go with 3 and 4, too, by f
        x = withBook("a>b>c,d>e>f");
        x.man(0, 1, 1);
        x.man(1, 1, 4);
        x.man(2, 1, 2 + 32);
        x.man(3, 1, 8);
        x.man(4, 1, 16);
        due("17 either", x.crowd(7, 0), 1);
        due("17 or", x.crowd(28, 0), 1);
        due("17 not 0 and 1", x.crowd(3, 1), 2);
        due("17 the better way", x.crowd(31, 1), 2);
    }

    private static void promise18Rings() {
        OneWorse x = new OneWorse();
        due("18 no rings", x.rings(0), 0);
        due("18 all top", x.rings(1), 1023);
        x = withBook("a>b>c>b,c>d,e>a,h>i>j>h");
        due("18 rings", x.rings(0), 2 + 4 + 128 + 256 + 512);
        due("18 top", x.rings(1), 8 + 32 + 64);
        x = withBook("a>b>c>d>e>f>g>h>i>j>a");
        due("18 one ring", x.rings(0), 1023);
        due("18 no top", x.rings(1), 0);
        due("18 outside", x.rings(2), OUTSIDE);
        due("18 outside", x.rings(-1), OUTSIDE);
    }

    private static void struck(OneWorse x, int... steps) {
        due("19 how many", x.ladder(-1), steps.length);
        for (int i = 0; i < steps.length; i++) due("19 struck " + i, x.ladder(i), steps[i]);
        due("19 none more", x.ladder(steps.length), NONE);
        due("19 none before", x.ladder(-2), NONE);
        due("19 none far", x.ladder(Integer.MAX_VALUE), NONE);
        due("19 none far", x.ladder(Integer.MIN_VALUE), NONE);
    }

    private static void promise19Ladder() {
        OneWorse x = new OneWorse();
        struck(x);
        x = withBook("j>i>h>a");
        struck(x);
        x = withBook("a>b>c>a");
        struck(x, 20);
        // an outsider that comes ahead of a turns the ring: b is first, if j must come ahead of a
        put(x, "j>a");
        x.steps();
        struck(x, 1);
        x = withBook("a>b>a,c>d>c,j>i>j");
        struck(x, 10, 32, 98);
        // two rings share b>c: one step is enough, and it is not that of the first order
        x = withBook("a>b>c>a,d>b>c>d");
        struck(x, 12);
        due("19 nothing was struck", x.told(1), 5);
        x.step(1, 2, false);
        struck(x);
        x.step(1, 0, true);
        struck(x, 10);
        ladderOfTheBookAsItIs();
    }

    /** Asked again and again while the book changes. */
    private static void ladderOfTheBookAsItIs() {
        for (int i = 0; i < 10; i++) {
            for (int j = 0; j < 10; j++) {
                if (i == j) continue;
                OneWorse x = new OneWorse();
                x.image(1);
                x.step(i, j, true);
                x.step(j, i, true);
                struck(x, i > j ? 10 * i + j : 10 * j + i);
                x.restore(1);
                struck(x);
                x.step(i, j, true);
                x.step(j, i, true);
                struck(x, i > j ? 10 * i + j : 10 * j + i);
                x.step(i, j, false);
                struck(x);
                x.image(0);
                x.step(i, j, true);
                struck(x, i > j ? 10 * i + j : 10 * j + i);
                x.restore(0);
                struck(x);
                x.step(j, i, false);
                struck(x);
            }
        }
    }

    private static void promise20Between() {
        OneWorse x = withBook("a>b>j,a>c>j,a>j,c>b>a,b>c");
        due("20 k 0", x.between(0, 9, 0, -1), 1);
        due("20 k 0", x.between(0, 9, 0, 0), 1);
        due("20 k 0, no more", x.between(0, 9, 0, 1), NONE);
        due("20 k 1", x.between(0, 9, 1, -1), 2);
        due("20 k 1", x.between(0, 9, 1, 0), 11);
        due("20 k 1", x.between(0, 9, 1, 1), 12);
        due("20 k 1", x.between(0, 9, 1, 2), NONE);
        due("20 k 2", x.between(0, 9, 2, -1), 2);
        due("20 k 2", x.between(0, 9, 2, 0), 112);
        due("20 k 2", x.between(0, 9, 2, 1), 121);
        due("20 k 3, all unlike", x.between(0, 9, 3, -1), 0);
        due("20 k 3", x.between(0, 9, 3, 0), NONE);
        due("20 back", x.between(9, 0, 1, -1), 0);
        due("20 no such", x.between(0, 9, 1, -2), NONE);
        due("20 no such", x.between(0, 9, 1, Integer.MAX_VALUE), NONE);
        for (int i = 0; i < 10; i++) {
            for (int j = 0; j < 10; j++) {
                if (i != j) x.step(i, j, true);
            }
        }
        due("20 all", x.between(3, 7, 4, -1), 8 * 7 * 6 * 5);
        due("20 first", x.between(3, 7, 4, 0), 10124);
        due("20 last", x.between(3, 7, 4, 1679), 19865);
        due("20 a zero ahead", x.between(3, 7, 1, 0), 10);
        due("20 with 0 and 9", x.between(9, 8, 2, 0), 101);
        for (int bad : NO_INSULTS) {
            due("20 unknown", x.between(bad, 0, 5, 0), UNKNOWN);
            due("20 unknown", x.between(0, bad, 0, 0), UNKNOWN);
        }
        due("20 both one", x.between(4, 4, 9, 0), UNKNOWN);
        due("20 outside", x.between(0, 1, 5, 0), OUTSIDE);
        due("20 outside", x.between(0, 1, -1, 0), OUTSIDE);
    }

    private static void promise21High() {
        OneWorse x = withBook("a>b>c>a,c>d,b>e");
        due("21 a", x.high(0), 3);
        due("21 b", x.high(1), 2);
        due("21 c", x.high(2), 3);
        due("21 d", x.high(3), 0);
        x.man(0, 1, 0);
        x.needs(3, 63);
        x.man(1, 0, 0);
        due("21 men are nothing to it", x.high(0), 3);
        x = withBook("a>b>c>d>e>f>g>h>i>j>a");
        due("21 round", x.high(5), 9);
        for (int bad : NO_INSULTS) due("21 unknown", x.high(bad), UNKNOWN);
    }

    private static OneWorse changed() {
        OneWorse x = withBook("a>b>c");
        x.needs(4, 9);
        x.man(2, 0, 11);
        x.man(3, 1, 77);
        return x;
    }

    private static void asChanged(OneWorse x, int signs) {
        due("signs", x.told(0), signs);
        due("steps", x.told(1), 2);
        due("from a", x.told(40), 2);
        due("needs", x.told(14), 9);
        due("traits", x.told(22), 11);
        due("knows", x.told(33), 77);
    }

    private static void promise22Image() {
        OneWorse x = changed();
        due("22 kept", x.image(0), 1);
        asChanged(x, 0);
        due("22 other one is not", x.restore(1), STATE);
        due("22 kept", x.image(1), 1);
        x.step(0, 1, false);
        due("22 kept anew", x.image(1), 1);
        x.step(0, 1, true);
        x.step(5, 6, true);
        due("22 back", x.restore(1), 1);
        due("22 as then", x.told(1), 1);
        due("22 the other image", x.restore(0), 1);
        asChanged(x, 0);
        due("22 outside", x.image(2), OUTSIDE);
        due("22 outside", x.image(-1), OUTSIDE);
    }

    private static void promise23Restore() {
        OneWorse x = changed();
        due("23 was not kept", x.restore(0), STATE);
        put(x, "abc");
        x.image(1);
        put(x, "0a1b2");
        x.step(0, 1, false);
        x.needs(4, 0);
        x.man(2, 0, 0);
        x.man(3, 1, 0);
        due("23 back", x.restore(1), 1);
        asChanged(x, 5);
        x.step(7, 8, true);
        due("23 again", x.restore(1), 1);
        asChanged(x, 5);
        due("23 outside", x.restore(2), OUTSIDE);
        due("23 outside", x.restore(-1), OUTSIDE);
    }

    private static void promise24Join() {
        OneWorse x = changed();
        due("24 was not kept", x.join(1), STATE);
        x.image(1);
        x.step(0, 1, false);
        x.step(8, 9, true);
        x.needs(4, 1);
        x.man(2, 0, 2);
        x.man(3, 1, 3);
        put(x, "abc");
        due("24 together", x.join(1), 3);
        due("24 from a", x.told(40), 2);
        due("24 from i", x.told(48), 512);
        due("24 needs stay", x.told(14), 1);
        due("24 traits stay", x.told(22), 2);
        due("24 knows stay", x.told(33), 3);
        due("24 the pad stays", x.told(0), 3);
        due("24 again", x.join(1), 3);
        due("24 the image is as it was", x.restore(1), 1);
        asChanged(x, 3);
        due("24 outside", x.join(2), OUTSIDE);
        due("24 outside", x.join(-1), OUTSIDE);
    }

    private static void promise25Told() {
        OneWorse x = new OneWorse();
        put(x, "a>b>a,i>j");
        due("25 signs", x.told(0), 9);
        x.steps();
        due("25 steps", x.told(1), 3);
        for (int i = 0; i < 10; i++) x.needs(i, i + 1);
        for (int m = 0; m < 5; m++) {
            x.man(m, 0, 10 + m);
            x.man(m, 1, 100 + m);
        }
        for (int i = 0; i < 10; i++) due("25 needs", x.told(10 + i), i + 1);
        for (int m = 0; m < 5; m++) {
            due("25 traits", x.told(20 + m), 10 + m);
            due("25 knows", x.told(30 + m), 100 + m);
        }
        due("25 from a", x.told(40), 2);
        due("25 from b", x.told(41), 1);
        due("25 from i", x.told(48), 512);
        due("25 from j", x.told(49), 0);
        int[] bad = {-1, 2, 9, 25, 29, 35, 39, 50, Integer.MIN_VALUE, Integer.MAX_VALUE};
        for (int what : bad) due("25 outside " + what, x.told(what), OUTSIDE);
    }

    private static void refusalsChangeNothing() {
        OneWorse x = changed();
        put(x, "a>b");
        x.say(200);
        x.step(0, 0, true);
        x.step(0, 10, true);
        x.needs(4, 64);
        x.man(2, 0, 64);
        x.man(3, 1, 1024);
        x.restore(0);
        x.join(0);
        x.judge(0);
        x.worth(0, 0);
        asChanged(x, 3);
        // questions change nothing either
        x.match(0, 1, 1);
        x.last(0, 1, 0);
        x.worth(1, 3);
        x.crowd(31, 1);
        x.ladder(-1);
        x.between(0, 2, 1, 0);
        x.sent(1, true);
        asChanged(x, 3);
    }
}
