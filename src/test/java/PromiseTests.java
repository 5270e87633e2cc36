/** For each promise of the document: ordinary inputs, the edges that it names, wrong inputs. */
public final class PromiseTests {
    private static final int BAD = -1, STATE = -2, FULL = -3, NONE = -9, NO = -1000000;
    private static final int LOW = Integer.MIN_VALUE, HIGH = Integer.MAX_VALUE;

    /** Four WORDS, four MOTIONS, four BABIES; BABY 3 is awake, BABY 0 is soon HUNGRY. */
    private static final String HOUSE =
            "w2 1;w0 3;w5 0;w1 0;m30 0 1 2;m20 3 3 0;m50 2 1;m10 1;b6 1 5;b3 2 40;b9 1 9;b0 1 9;";

    private static int wrong = 0;
    private static int asked = 0;

    private static void due(int promise, String what, long got, long want) {
        asked++;
        if (got != want) {
            wrong++;
            System.out.println("promise " + promise + ": " + what + " answered " + got + ", due is " + want);
        }
    }

    private static void type(CradleBills x, String text) {
        for (int i = 0; i < text.length(); i++) {
            x.type(text.charAt(i));
        }
    }

    private static int tell(CradleBills x, String text) {
        x.clear();
        type(x, text);
        return x.house();
    }

    private static CradleBills told(String text) {
        CradleBills x = new CradleBills();
        if (tell(x, text) < 0) {
            throw new IllegalStateException("the test's own text is at fault: " + text);
        }
        return x;
    }

    public static void main(String[] args) {
        newObject();
        typing();
        clearing();
        housing();
        faults();
        wordsMotionsBabies();
        nowAndItsEdges();
        reading();
        rockingAndFeeding();
        undoing();
        woulds();
        deeps();
        rockings();
        wordings();
        noises();
        odds();
        matches();
        agendas();
        hearing();
        rates();
        images();
        counts();
        System.out.println(wrong == 0 ? asked + " answers are as due" : wrong + " of " + asked + " are not");
        if (wrong != 0) {
            System.exit(1);
        }
    }

    private static void newObject() {
        CradleBills x = new CradleBills();
        for (int what = 0; what <= 4; what++) {
            due(1, "count(" + what + ")", x.count(what), 0);
        }
        for (int what = 0; what <= 5; what++) {
            due(1, "now(" + what + ")", x.now(what), 0);
        }
        due(1, "word(0, 0)", x.word(0, 0), BAD);
        due(1, "motion(0, 0)", x.motion(0, 0), BAD);
        due(1, "baby(0, 0)", x.baby(0, 0), BAD);
        due(1, "match(-1)", x.match(-1), 0);
        due(1, "which()", x.which(), 0);
        due(1, "trace()", x.trace(), 0);
        due(1, "undo()", x.undo(), STATE);
        due(1, "back(0)", x.back(0), STATE);
        due(1, "forget()", x.forget(), 0);
        due(1, "constants", CradleBills.BAD == BAD && CradleBills.STATE == STATE && CradleBills.FULL == FULL
                && CradleBills.NONE == NONE && CradleBills.NO == NO ? 1 : 0, 1);
    }

    private static void typing() {
        CradleBills x = new CradleBills();
        due(2, "type(0)", x.type(0), 1);
        due(2, "type(255)", x.type(255), 2);
        due(2, "type(-1)", x.type(-1), BAD);
        due(2, "type(256)", x.type(256), BAD);
        due(2, "type(LOW)", x.type(LOW), BAD);
        due(2, "type(HIGH)", x.type(HIGH), BAD);
        due(2, "refused letters are not there", x.count(4), 2);
        for (int i = 3; i <= 200; i++) {
            due(2, "letter " + i, x.type('w'), i);
        }
        due(2, "letter 201", x.type('w'), FULL);
        due(2, "BAD is ahead of FULL", x.type(256), BAD);
        due(2, "the text stays", x.count(4), 200);
    }

    private static void clearing() {
        CradleBills x = told("w1 1;b5 1 9;");
        due(3, "clear() of nothing", x.clear(), 0);
        type(x, "w2 2;");
        due(3, "clear()", x.clear(), 5);
        due(3, "clear() again", x.clear(), 0);
        due(3, "letters", x.count(4), 0);
        due(3, "the house stays", x.baby(0, 0), 5);
        due(3, "the word stays", x.word(0, 0), 1);
        due(3, "type() begins anew", x.type('w'), 1);
    }

    private static void housing() {
        CradleBills x = new CradleBills();
        due(4, "house() of no text", x.house(), 0);
        due(4, "a house of blanks", tell(x, "    "), 0);
        due(4, "items", tell(x, HOUSE), 12);
        due(4, "the text is empty then", x.count(4), 0);
        due(4, "blanks wherever", tell(x, " w 1  1 ; m 99 0 0 ;b9 3 99 ; "), 3);
        due(4, "WORTH", x.motion(0, 0), 99);
        due(4, "w between m", tell(x, "w1 1;m1 0;w2 2;m2 1 0;b1 1 1;w3 3;"), 6);
        due(4, "the third word", x.word(2, 1), 3);
        due(4, "most items", tell(x, "w9 5;w0 0;w1 1;w2 2;w3 3;w4 4;m0 0 1 2 3 4 5;m1 0;m2 0;m3 0;m99 5;"
                + "b9 3 99;b0 0 1;b1 1 1;b2 2 2;"), 15);
        due(4, "a sixth word is said", x.said(0, 5), 5);
        x.rocks(0);
        x.reads(1, 0);
        x.hears(0, 1);
        x.keep(0);
        x.rate(0, 0);
        due(4, "told anew", tell(x, "w0 0;m5 0;b4 1 7;"), 3);
        due(4, "THE MINUTE", x.now(0), 0);
        due(4, "CARRIED", x.now(1), 0);
        due(4, "LOST", x.now(2), 0);
        due(4, "nothing may be UNDONE", x.now(5), 0);
        due(4, "undo()", x.undo(), STATE);
        due(4, "HEARD is gone", x.count(3), 0);
        due(4, "IMAGES are gone", x.back(0), STATE);
        due(4, "DEPTH as told", x.baby(0, 0), 4);
        due(4, "THE TRACE stays", x.trace(), 1);
        x.feeds(0);
        due(4, "an empty text tells of nobody", x.house(), 0);
        due(4, "no babies", x.count(2), 0);
        due(4, "FED is forgotten", tell(x, "b4 1 7;"), 1);
        due(4, "FED", x.baby(0, 3), 0);
    }

    private static void fault(String text, int place) {
        CradleBills x = told("w1 1;m7 0;b5 1 9;");
        x.rocks(0);
        x.hears(0, 6);
        x.keep(1);
        due(4, "'" + text + "'", tell(x, text), -10 - place);
        due(4, "the text stays behind '" + text + "'", x.count(4), text.length());
        due(4, "the house stays", x.count(0) * 100 + x.count(1) * 10 + x.count(2), 111);
        due(4, "its word stays", x.word(0, 0), 1);
        due(4, "its motion stays", x.motion(0, 0), 7);
        due(4, "NOW stays", x.now(0), 2);
        due(4, "HEARD stays", x.count(3), 1);
        due(4, "IMAGES stay", x.back(1), 2);
    }

    private static void faults() {
        fault("x", 0);
        fault("5", 0);
        fault(";", 0);
        fault("  W1 1;", 2);
        fault("w", 1);
        fault("w1", 2);
        fault("w1 1", 4);
        fault("w1 1  ", 6);
        fault("w10 1;", 1);
        fault("w9 6;", 3);
        fault("w1;", 2);
        fault("w;", 1);
        fault("w1 1 1;", 5);
        fault("w1 m", 3);
        fault("w01 1;", 1);
        fault("w00 1;", 1);
        fault("w1 00", 3);
        fault("w123456789012345678901234567890 1;", 1);
        fault("w1 1;;", 5);
        fault("w1,1;", 2);
        fault("w1\t1;", 2);
        fault("w1 1;m100 0;", 6);
        fault("w1 1;m0;", 7);
        fault("w1 1;m;", 6);
        fault("w1 1;m 5 1;", 9);
        fault("m5 0;w1 1;", 3);
        fault("w1 1;m5 0 0 0 0 0 0 0;", 20);
        fault("w1 1;m5 0 w", 10);
        fault("w1 1;m5 0", 9);
        fault("b10 1 1;", 1);
        fault("b9 4 1;", 3);
        fault("b9 3 0;", 5);
        fault("b9 3 100;", 5);
        fault("b9 3;", 4);
        fault("b9 3 1 1;", 7);
        fault("b9 3 99", 7);
        fault("b1 1 1;b1 1 1;b1 1 1;b1 1 1;b", 28);
        fault("w0 0;w0 0;w0 0;w0 0;w0 0;w0 0; w0 0;", 31);
        fault("w0 0;m1 0;m1 0;m1 0;m1 0;m1 0;m", 30);
        fault("w1 1;m5 0;" + (char) 255, 10);
        fault("w1 1;m5 0;" + (char) 0, 10);
    }

    private static void wordsMotionsBabies() {
        CradleBills x = told(HOUSE);
        due(5, "LOUD", x.word(2, 0), 5);
        due(5, "LULL", x.word(1, 1), 3);
        due(5, "word(4, 0)", x.word(4, 0), BAD);
        due(5, "word(-1, 0)", x.word(-1, 0), BAD);
        due(5, "word(0, 2)", x.word(0, 2), BAD);
        due(5, "word(0, -1)", x.word(0, -1), BAD);
        due(5, "word(HIGH, LOW)", x.word(HIGH, LOW), BAD);
        due(6, "WORTH", x.motion(2, 0), 50);
        due(6, "how many WORDS", x.motion(2, 1), 2);
        due(6, "as told", x.motion(2, 2), 0);
        x.reads(3, 0);
        x.reads(2, 1);
        due(6, "CARRIED", x.motion(3, 2), 1);
        due(6, "LOST", x.motion(2, 2), 2);
        due(6, "motion(4, 0)", x.motion(4, 0), BAD);
        due(6, "motion(-1, 0)", x.motion(-1, 0), BAD);
        due(6, "motion(0, 3)", x.motion(0, 3), BAD);
        due(6, "motion(0, -1)", x.motion(0, -1), BAD);
        due(7, "said(0, 0)", x.said(0, 0), 0);
        due(7, "said(0, 2)", x.said(0, 2), 2);
        due(7, "said(1, 1)", x.said(1, 1), 3);
        due(7, "said(0, 3)", x.said(0, 3), BAD);
        due(7, "said(3, 1)", x.said(3, 1), BAD);
        due(7, "said(0, -1)", x.said(0, -1), BAD);
        due(7, "said(4, 0)", x.said(4, 0), BAD);
        due(7, "said(HIGH, HIGH)", x.said(HIGH, HIGH), BAD);
        CradleBills y = told(HOUSE);
        due(8, "DEPTH", y.baby(2, 0), 9);
        due(8, "EARS", y.baby(1, 1), 2);
        due(8, "HUNGER", y.baby(1, 2), 40);
        due(8, "FED at first", y.baby(0, 3), 0);
        due(8, "HUNGRY at first", y.baby(0, 4), 0);
        y.rocks(2);
        y.rocks(2);
        due(8, "a minute ahead of HUNGRY", y.baby(0, 4), 0);
        due(8, "reads() for a minute", y.reads(3, 2), -5);
        due(8, "HUNGER minutes: HUNGRY", y.baby(0, 4), 1);
        y.feeds(0);
        due(8, "FED behind its minutes", y.baby(0, 3), 8);
        due(8, "no more HUNGRY", y.baby(0, 4), 0);
        due(8, "baby(4, 0)", y.baby(4, 0), BAD);
        due(8, "baby(-1, 0)", y.baby(-1, 0), BAD);
        due(8, "baby(0, 5)", y.baby(0, 5), BAD);
        due(8, "baby(0, -1)", y.baby(0, -1), BAD);
    }

    private static void nowAndItsEdges() {
        CradleBills x = told(HOUSE);
        due(9, "who sleeps", x.now(4), 7);
        x.reads(3, 0);
        x.reads(2, 1);
        x.reads(0, 2);
        due(9, "THE MINUTE", x.now(0), 5);
        due(9, "CARRIED", x.now(1), 9);
        due(9, "LOST", x.now(2), 4);
        due(9, "EARNED", x.now(3), 40);
        due(9, "who sleeps now", x.now(4), 5);
        due(9, "how many may be UNDONE", x.now(5), 3);
        x.feeds(3);
        due(9, "FED is none of them", x.now(1) * 10 + x.now(2), 94);
        due(9, "now(6)", x.now(6), BAD);
        due(9, "now(-1)", x.now(-1), BAD);
    }

    private static void reading() {
        CradleBills x = told(HOUSE);
        due(10, "reads(0, 0)", x.reads(0, 0), -5);
        due(10, "its DEPTH then", x.baby(0, 0), 3);
        due(10, "a minute each WORD", x.now(0), 3);
        due(10, "of a CARRIED one", x.reads(0, 2), STATE);
        due(10, "reads(1, 1) wakes at 1", x.reads(1, 1), 1);
        due(10, "it ends with that WORD", x.now(0), 5);
        due(10, "it is awake", x.baby(1, 0), 0);
        due(10, "of a LOST one", x.reads(1, 2), STATE);
        due(10, "by one that is awake", x.reads(2, 1), STATE);
        due(10, "by one that was never asleep", x.reads(2, 3), STATE);
        due(10, "refused calls take no minutes", x.now(0), 5);
        due(10, "refused calls are not UNDONE", x.now(5), 2);
        due(10, "BABY 0 is HUNGRY", x.baby(0, 4), 1);
        due(10, "HUNGRY ears are twice as large", x.reads(2, 0), 0);
        due(10, "reads(4, 0)", x.reads(4, 0), BAD);
        due(10, "reads(0, 4)", x.reads(0, 4), BAD);
        due(10, "reads(-1, 0)", x.reads(-1, 0), BAD);
        due(10, "reads(0, -1)", x.reads(0, -1), BAD);
        CradleBills y = told("w2 0;w0 5;m10 0 0 0;m11 1 1;b9 1 1;b9 1 2;");
        due(10, "HUNGRY only as a MOTION begins", y.reads(0, 0), -5);
        due(10, "its DEPTH is 3", y.baby(0, 0), 3);
        due(10, "LULL beyond 9 is not counted", y.reads(1, 0), -5);
        due(10, "its DEPTH is 9", y.baby(0, 0), 9);
        CradleBills z = told("w3 5;m10 0;b9 3 9;b4 3 9;b9 2 9;");
        due(10, "LULL and LOUD are one step", z.reads(0, 0), -5);
        due(10, "9 and 5 less 9", z.baby(0, 0), 5);
        due(10, "4 and 5 less 9", z.would(0, 1), 0);
        due(10, "9 and 5 less 6", z.undo() + z.reads(0, 2), -5);
        due(10, "DEPTH 8", z.baby(2, 0), 8);
    }

    private static void rockingAndFeeding() {
        CradleBills x = told(HOUSE);
        due(11, "an awake one sleeps then", x.rocks(3), 3);
        due(11, "two minutes", x.now(0), 2);
        due(11, "rocks(0)", x.rocks(0), 9);
        due(11, "9 at most", x.rocks(0), 9);
        due(11, "who sleeps", x.now(4), 15);
        due(11, "rocks(4)", x.rocks(4), BAD);
        due(11, "rocks(-1)", x.rocks(-1), BAD);
        due(11, "refused: no minutes", x.now(0), 6);
        due(12, "feeds(0)", x.feeds(0), 9);
        due(12, "it is awake then", x.baby(0, 0), 0);
        due(12, "FED", x.baby(0, 3), 9);
        due(12, "the others are not", x.baby(1, 3), 0);
        due(12, "three minutes", x.now(0), 9);
        due(12, "feeds(4)", x.feeds(4), BAD);
        due(12, "feeds(-1)", x.feeds(-1), BAD);
        due(12, "refused: no minutes", x.now(0), 9);
        due(12, "how many may be UNDONE", x.now(5), 4);
    }

    private static void undoing() {
        CradleBills x = told(HOUSE);
        x.reads(0, 0);
        x.reads(2, 1);
        x.feeds(2);
        due(13, "feeds() UNDONE", x.undo(), 2);
        due(13, "FED as before", x.baby(2, 3), 0);
        due(13, "DEPTH as before", x.baby(2, 0), 9);
        due(13, "reads() UNDONE", x.undo(), 1);
        due(13, "no more LOST", x.now(2), 0);
        due(13, "it sleeps again", x.baby(1, 0), 3);
        due(13, "THE MINUTE", x.now(0), 3);
        due(13, "the first UNDONE", x.undo(), 0);
        due(13, "no more CARRIED", x.now(1), 0);
        due(13, "none", x.undo(), STATE);
        for (int i = 0; i < 13; i++) {
            x.rocks(3);
        }
        due(13, "10 are known", x.now(5), 10);
        x.reads(9, 9);
        x.hears(0, 1);
        for (int left = 9; left >= 0; left--) {
            due(13, "undo() to " + left, x.undo(), left);
        }
        due(13, "older ones are lost", x.undo(), STATE);
        due(13, "three rockings stay", x.now(0), 6);
        due(13, "HEARD is not UNDONE", x.count(3), 1);
    }

    private static void woulds() {
        CradleBills x = told(HOUSE);
        due(14, "CARRIED", x.would(0, 0), -5);
        due(14, "at the first WORD", x.would(0, 1), 0);
        due(14, "at the second WORD", x.would(1, 1), 1);
        due(14, "awake", x.would(0, 3), NONE);
        due(14, "nothing is changed", x.now(0) + x.now(1) + x.now(2) + x.now(5), 0);
        x.reads(1, 1);
        due(14, "of a LOST one too", x.would(1, 2), -5);
        x.rocks(2);
        x.rocks(2);
        due(14, "HUNGRY as NOW", x.would(0, 0), 2);
        due(14, "would(4, 0)", x.would(4, 0), BAD);
        due(14, "would(0, 4)", x.would(0, 4), BAD);
        due(14, "would(-1, -1)", x.would(-1, -1), BAD);
        CradleBills y = told("w2 0;m1 0 0 0;b9 1 2;");
        due(14, "no minutes go by", y.would(0, 0), -5);
    }

    private static void deeps() {
        CradleBills x = told(HOUSE);
        due(15, "deep(0, 0)", x.deep(0, 0), 4);
        due(15, "deep(2, 2)", x.deep(2, 2), 6);
        due(15, "LULL alone", x.deep(3, 1), 1);
        due(15, "of one that is awake", x.deep(2, 3), 6);
        due(15, "by none", x.deep(2, 1), NONE);
        x.rocks(2);
        x.rocks(2);
        x.rocks(2);
        due(15, "of one that is HUNGRY", x.deep(1, 0), 8);
        due(15, "deep(4, 0)", x.deep(4, 0), BAD);
        due(15, "deep(0, 4)", x.deep(0, 4), BAD);
        due(15, "deep(0, -1)", x.deep(0, -1), BAD);
        CradleBills y = told("w4 0;w8 0;w9 0;m1 0 0;m1 1;m1 2;b1 1 9;");
        due(15, "at 9", y.deep(0, 0), 9);
        due(15, "at 9, by one WORD", y.deep(1, 0), 9);
        due(15, "9 is too little", y.deep(2, 0), NONE);
    }

    private static void rockings() {
        CradleBills x = told(HOUSE);
        due(16, "0", x.rockings(0, 0), 0);
        due(16, "awake: once", x.rockings(3, 3), 1);
        due(16, "awake: twice", x.rockings(2, 3), 2);
        due(16, "NONE", x.rockings(2, 1), NONE);
        due(16, "nothing is changed", x.now(0) + x.baby(3, 0), 0);
        due(16, "rockings(4, 0)", x.rockings(4, 0), BAD);
        due(16, "rockings(0, 4)", x.rockings(0, 4), BAD);
        due(16, "rockings(-1, 0)", x.rockings(-1, 0), BAD);
        CradleBills y = told("w8 0;m1 0;b0 1 5;b1 1 5;b1 2 5;");
        due(16, "three, no minutes go by", y.rockings(0, 0), 3);
        due(16, "three of a light sleep", y.rockings(0, 1), 3);
        due(16, "never", y.rockings(0, 2), NONE);
    }

    private static void wordings() {
        CradleBills x = told("w5 0;w0 4;w3 0;m1 0 2 1 1;m1 0 0 0;m1 2 1 0 1;b5 1 5;b0 1 9;b9 1 99;");
        due(17, "the first WORD lulls", x.wording(0, 0, 0), 1);
        due(17, "then the loudest that may be", x.wording(0, 0, 1), 0);
        due(17, "third", x.wording(0, 0, 2), 1);
        due(17, "fourth", x.wording(0, 0, 3), 2);
        due(17, "not so many", x.wording(0, 0, 4), -5);
        due(17, "not so many by far", x.wording(0, 0, HIGH), -5);
        due(17, "the motion itself stays", x.said(0, 0), 0);
        due(17, "by none", x.wording(1, 0, 0), NONE);
        due(17, "by none, any k", x.wording(1, 0, 9), NONE);
        due(17, "awake", x.wording(0, 1, 0), NONE);
        due(17, "whatever order it was told in", x.wording(2, 2, 0), 0);
        due(17, "second by numbers", x.wording(2, 2, 1), 1);
        due(17, "third by numbers", x.wording(2, 2, 2), 1);
        due(17, "fourth by numbers", x.wording(2, 2, 3), 2);
        due(17, "k below 0", x.wording(0, 0, -1), BAD);
        due(17, "wording(3, 0, 0)", x.wording(3, 0, 0), BAD);
        due(17, "wording(0, 3, 0)", x.wording(0, 3, 0), BAD);
        x.rocks(1);
        x.rocks(1);
        x.rocks(1);
        due(17, "HUNGRY as NOW", x.wording(0, 0, 0), NONE);
    }

    private static void noises() {
        CradleBills x = told(HOUSE);
        due(18, "least", x.noise(0, 0, 0), 3);
        due(18, "place", x.noise(0, 0, 1), 0);
        due(18, "one of two of the same WORD", x.noise(1, 2, 0), 6);
        due(18, "its place", x.noise(1, 2, 1), 0);
        due(18, "9 is the most", x.noise(3, 0, 0), 9);
        due(18, "not CARRIED anyhow", x.noise(0, 1, 0), NONE);
        due(18, "not CARRIED anyhow: place", x.noise(0, 1, 1), NONE);
        due(18, "by no n", x.noise(3, 2, 0), NONE);
        due(18, "by no n: place", x.noise(3, 2, 1), NONE);
        due(18, "awake", x.noise(3, 3, 0), NONE);
        due(18, "what = 2", x.noise(0, 0, 2), BAD);
        due(18, "what = -1", x.noise(0, 0, -1), BAD);
        due(18, "noise(4, 0, 0)", x.noise(4, 0, 0), BAD);
        due(18, "noise(0, 4, 0)", x.noise(0, 4, 0), BAD);
        CradleBills y = told("w0 5;w4 0;m1 0 1;m2 1 0;b5 1 9;b5 0 9;");
        due(18, "a later place needs less", y.noise(0, 0, 0), 5);
        due(18, "that place: LULL beyond 9 is lost", y.noise(0, 0, 1), 1);
        due(18, "the first place", y.noise(1, 0, 1), 0);
        due(18, "n = 1", y.noise(1, 0, 0), 1);
        due(18, "deaf", y.noise(1, 1, 0), NONE);
    }

    private static void odds() {
        CradleBills x = told(HOUSE);
        due(19, "upper", x.odds(0, 0, 5, 0), 7);
        due(19, "lower", x.odds(0, 0, 5, 1), 8);
        due(19, "never louder", x.odds(0, 0, 0, 0), 1);
        due(19, "never louder: lower", x.odds(0, 0, 0, 1), 1);
        due(19, "always louder", x.odds(0, 0, 10, 0), 0);
        due(19, "always louder: lower", x.odds(0, 0, 10, 1), 1);
        due(19, "1 of 10", x.odds(0, 0, 1, 0), 999);
        due(19, "1 of 10: lower", x.odds(0, 0, 1, 1), 1000);
        due(19, "awake", x.odds(0, 3, 5, 0), 0);
        due(19, "awake: lower", x.odds(0, 3, 5, 1), 1);
        due(19, "x = 11", x.odds(0, 0, 11, 0), BAD);
        due(19, "x = -1", x.odds(0, 0, -1, 0), BAD);
        due(19, "what = 2", x.odds(0, 0, 5, 2), BAD);
        due(19, "what = -1", x.odds(0, 0, 5, -1), BAD);
        due(19, "odds(4, 0, 5, 0)", x.odds(4, 0, 5, 0), BAD);
        due(19, "odds(0, 4, 5, 0)", x.odds(0, 4, 5, 0), BAD);
        CradleBills y = told("w0 0;m1 0 0 0 0 0 0;m1 0 0;b6 1 9;b2 1 9;");
        due(19, "six times the same WORD, each for itself", y.odds(0, 0, 3, 0), 999271);
        due(19, "lower of that", y.odds(0, 0, 3, 1), 1000000);
        due(19, "two", y.odds(1, 1, 5, 0), 3);
        due(19, "lower of two", y.odds(1, 1, 5, 1), 4);
    }

    private static void matches() {
        CradleBills x = told(HOUSE);
        due(20, "how much", x.match(-1), 90);
        due(20, "match(0)", x.match(0), 0);
        due(20, "match(1)", x.match(1), NONE);
        due(20, "match(2)", x.match(2), 2);
        due(20, "match(3)", x.match(3), 1);
        due(20, "match(4)", x.match(4), BAD);
        due(20, "match(-2)", x.match(-2), BAD);
        x.reads(2, 2);
        due(20, "a CARRIED one is given to none", x.match(2), NONE);
        due(20, "how much is left", x.match(-1), 60);
        CradleBills y = told("w0 0;w9 0;m5 0;m5 0;m0 0;m9 1;b9 1 9;b9 1 9;b9 1 9;");
        due(20, "the same WORTH", y.match(-1), 10);
        due(20, "the first way", y.match(0), 0);
        due(20, "its second", y.match(1), 1);
        due(20, "no WORTH: none", y.match(2), NONE);
        due(20, "not CARRIED: none", y.match(3), NONE);
        CradleBills z = told("w0 0;m5 0;m5 0;m7 0;b9 1 9;b9 1 9;");
        due(20, "none ahead of a BABY", z.match(0), NONE);
        due(20, "BABY 0", z.match(1), 0);
        due(20, "BABY 1", z.match(2), 1);
        CradleBills w = told("w9 3;m5 0;m6 0;b0 0 9;");
        due(20, "nobody sleeps", w.match(-1), 0);
        due(20, "nobody sleeps: none", w.match(1), NONE);
    }

    private static void agendas() {
        CradleBills x = told(HOUSE);
        due(21, "how much", x.agenda(0, -1), 110);
        int[] row = {0, 3, 2, 1, -5};
        for (int k = 0; k < row.length; k++) {
            due(21, "agenda(0, " + k + ")", x.agenda(0, k), row[k]);
        }
        due(21, "not so many by far", x.agenda(0, HIGH), -5);
        due(21, "awake: how much", x.agenda(3, -1), 0);
        due(21, "awake", x.agenda(3, 0), -5);
        due(21, "agenda(4, 0)", x.agenda(4, 0), BAD);
        due(21, "agenda(-1, 0)", x.agenda(-1, 0), BAD);
        due(21, "agenda(0, -2)", x.agenda(0, -2), BAD);
        due(21, "nothing is changed", x.now(0) + x.now(1) + x.now(2), 0);
        x.reads(0, 2);
        due(21, "what is CARRIED is in no row", x.agenda(0, -1), 80);
        CradleBills y = told("w0 0;w5 0;w0 5;m0 0;m7 0;m9 1 1;m0 2;b6 1 99;");
        due(21, "a MOTION without WORTH that lulls", y.agenda(0, -1), 7);
        due(21, "fewest: no MOTION without WORTH", y.agenda(0, 0), 1);
        due(21, "fewest: one", y.agenda(0, 1), -5);
        CradleBills z = told("w5 0;w0 5;m9 0;m9 0;m0 1;b6 1 99;");
        due(21, "lulled between", z.agenda(0, -1), 18);
        due(21, "first", z.agenda(0, 0), 0);
        due(21, "the lull", z.agenda(0, 1), 2);
        due(21, "last", z.agenda(0, 2), 1);
        CradleBills w = told("w5 0;m3 0;m4 0;m7 0;b6 1 99;");
        due(21, "one of them only", w.agenda(0, 0), 2);
    }

    private static void hearing() {
        CradleBills x = told(HOUSE);
        due(24, "nothing HEARD: all", x.which(), 15);
        due(22, "hears(1, 0)", x.hears(1, 0), 1);
        due(24, "woken at 0", x.which(), 5);
        due(22, "hears(0, 6)", x.hears(0, 6), 2);
        due(24, "and CARRIED by another", x.which(), 5);
        due(22, "hears(4, 0)", x.hears(4, 0), BAD);
        due(22, "hears(-1, 0)", x.hears(-1, 0), BAD);
        due(22, "hears(0, -1)", x.hears(0, -1), BAD);
        due(22, "hears(0, 7)", x.hears(0, 7), BAD);
        due(23, "forget()", x.forget(), 2);
        due(23, "forget() again", x.forget(), 0);
        due(24, "all again", x.which(), 15);
        due(22, "of one that is awake", x.hears(3, 6), 1);
        due(24, "it is not so", x.which(), 0);
        x.rocks(3);
        due(24, "as BABIES are NOW", x.which(), 8);
        for (int i = 2; i <= 6; i++) {
            due(22, "HEARD " + i, x.hears(3, 6), i);
        }
        due(22, "a seventh", x.hears(3, 6), FULL);
        due(22, "BAD is ahead of FULL", x.hears(3, 7), BAD);
        due(22, "six stay", x.count(3), 6);
        x.forget();
        x.reads(1, 1);
        x.hears(2, 6);
        due(24, "CARRIED and LOST ones too", x.which(), 15);
        x.forget();
        x.hears(2, 5);
        due(24, "at a WORD that there is not", x.which(), 0);
    }

    private static void rates() {
        CradleBills x = told(HOUSE);
        due(25, "BABY", x.rate(0, 1), 3);
        due(29, "BABY is asked", x.trace(), 1);
        due(25, "COLIC", x.rate(1, 1), 5);
        due(29, "COLIC is asked", x.trace(), 1 + 11);
        due(25, "TWIN", x.rate(2, 1), 3);
        due(29, "TWIN is asked", x.trace(), 12 + 101);
        due(25, "TEETH", x.rate(3, 1), 10);
        due(29, "TEETH is asked", x.trace(), 113 + 1011);
        due(25, "NURSE", x.rate(4, 1), 4);
        due(29, "NURSE is asked", x.trace(), 1124 + 10101);
        x.reads(0, 2);
        due(25, "CHARTER", x.rate(5, 1), 33);
        due(29, "CHARTER is asked", x.trace(), 11225 + 100001);
        x.rocks(3);
        due(25, "TWIN that is HUNGRY", x.rate(2, 0), 1);
        x.feeds(2);
        x.feeds(1);
        due(25, "NURSE that is HUNGRY", x.rate(4, 3), 3 - 5 + 3);
        due(29, "HUNGRY or not", x.trace(), 111226 + 101 + 10101);
        CradleBills y = told("b0 0 1;b0 3 99;");
        y.rocks(1);
        due(25, "below 0", y.rate(2, 0), -5);
        due(25, "rate(6, 0)", y.rate(6, 0), NO);
        due(25, "rate(-1, 0)", y.rate(-1, 0), NO);
        due(25, "rate(0, 2)", y.rate(0, 2), NO);
        due(25, "rate(0, -1)", y.rate(0, -1), NO);
        due(29, "what is refused is not asked", y.trace(), 101);
        y.undo();
        due(29, "THE TRACE is not UNDONE", y.trace(), 101);
    }

    private static void images() {
        CradleBills x = told(HOUSE);
        due(26, "keep(0)", x.keep(0), 0);
        x.reads(0, 0);
        x.feeds(1);
        x.hears(0, 0);
        due(26, "keep(1)", x.keep(1), 6);
        due(26, "nothing else changes", x.now(5), 2);
        due(26, "keep(2)", x.keep(2), BAD);
        due(26, "keep(-1)", x.keep(-1), BAD);
        due(27, "back(0)", x.back(0), 0);
        due(27, "no more CARRIED", x.now(1), 0);
        due(27, "DEPTH", x.baby(0, 0), 6);
        due(27, "FED", x.baby(1, 3), 0);
        due(27, "nothing can be UNDONE", x.undo(), STATE);
        due(27, "HEARD stays", x.count(3), 1);
        x.reads(2, 1);
        due(27, "back(1)", x.back(1), 6);
        due(27, "CARRIED", x.now(1), 1);
        due(27, "no more LOST", x.now(2), 0);
        due(27, "FED again", x.baby(1, 3), 6);
        due(27, "DEPTH again", x.baby(0, 0) * 10 + x.baby(1, 0), 30);
        x.rocks(0);
        due(26, "kept anew", x.keep(1), 8);
        due(27, "back(1) of that", x.back(1), 8);
        due(27, "an IMAGE may come back twice", x.back(1), 8);
        due(27, "back(2)", x.back(2), BAD);
        due(27, "back(-1)", x.back(-1), BAD);
        CradleBills y = told(HOUSE);
        y.keep(1);
        y.rocks(0);
        due(27, "none was kept", y.back(0), STATE);
        due(27, "refused: what may be UNDONE stays", y.now(5), 1);
    }

    private static void counts() {
        CradleBills x = told("w1 1;w2 2;w3 3;m1 0;m2 1;b1 1 1;");
        type(x, "w1 1");
        x.hears(0, 0);
        x.hears(0, 1);
        x.hears(0, 2);
        x.hears(0, 3);
        x.hears(0, 4);
        due(28, "WORDS", x.count(0), 3);
        due(28, "MOTIONS", x.count(1), 2);
        due(28, "BABIES", x.count(2), 1);
        due(28, "HEARD", x.count(3), 5);
        due(28, "letters", x.count(4), 4);
        due(28, "count(5)", x.count(5), BAD);
        due(28, "count(-1)", x.count(-1), BAD);
    }
}
