/** For each promise of the document, in its order: ordinary inputs, the edges that it names, and wrong inputs. */
public final class PromisesTest {
    private static final int NO_SUCH = -1, BAD_VALUE = -2, BAD_TEXT = -3, TOO_MANY = -4, NOT_POSSIBLE = -5, NONE = -6;
    private static int wrong = 0;
    private static int asked = 0;
    private static int promise = 0;
    private static RadioCues x;

    private PromisesTest() { }

    public static void main(String[] args) {
        newObject();
        set();
        sound();
        cue();
        takeOut();
        move();
        goal();
        begin();
        passCues();
        passLevels();
        passWinding();
        passDoors();
        passBounds();
        ofCue();
        ofReel();
        ofSound();
        played();
        ofChannel();
        loud();
        count();
        rest();
        becomes();
        leastWind();
        ifMoved();
        readyIn();
        put();
        wipe();
        fault();
        carryOut();
        undo();
        save();
        restore();
        System.out.println(asked + " answers asked, " + wrong + " wrong");
        if (wrong != 0) {
            System.exit(1);
        }
    }

    private static void fresh(int number) {
        promise = number;
        x = new RadioCues();
    }

    private static void due(String what, int got, int want) {
        asked++;
        if (got != want) {
            wrong++;
            System.out.println("promise " + promise + ": " + what + " answered " + got + ", due is " + want);
        }
    }

    /** Puts a text on the pad, eight characters at a time. */
    private static void type(String text) {
        for (int from = 0; from < text.length(); from += 8) {
            x.put(packed(text.substring(from, Math.min(text.length(), from + 8))));
        }
    }

    private static long packed(String text) {
        long characters = 0;
        for (char c : text.toCharArray()) {
            characters = characters << 8 | c;
        }
        return characters;
    }

    private static void pass(int seconds) {
        while (seconds > 0) {
            x.pass(Math.min(200, seconds));
            seconds -= 200;
        }
    }

    private static void newObject() {
        fresh(1);
        int[] counts = {0, 0, 0, 0, 0, 0, NONE, 0, 0, 4, 2, 10, 150, 0, 0};
        for (int what = 0; what < counts.length; what++) {
            due("count(" + what + ")", x.count(what), counts[what]);
        }
        int[] reel = {0, NONE, 0, 0, 0, NONE};
        for (int k = 0; k < 4; k++) {
            for (int what = 0; what < reel.length; what++) {
                due("ofReel(" + k + ", " + what + ")", x.ofReel(k, what), reel[what]);
            }
            due("level", x.ofChannel(k, 0), 50);
            due("goal", x.ofChannel(k, 1), 50);
            due("doors", x.ofChannel(k, 2), 0);
            due("no sound", x.ofSound(k, 0, 0), NO_SUCH);
        }
        due("no cue", x.ofCue(0, 0), NO_SUCH);
        due("nothing saved", x.restore(0), NOT_POSSIBLE);
        due("nothing saved", x.restore(1), NOT_POSSIBLE);
        due("codes", RadioCues.NO_SUCH * 100000 + RadioCues.BAD_VALUE * 10000 + RadioCues.BAD_TEXT * 1000
                + RadioCues.TOO_MANY * 100 + RadioCues.NOT_POSSIBLE * 10 + RadioCues.NONE, -123456);
        due("settings", RadioCues.WIND * 1000 + RadioCues.SLAM * 100 + RadioCues.FADE * 10 + RadioCues.LOUD, 123);
    }

    private static void set() {
        fresh(2);
        int[] first = {4, 2, 10, 150};
        int[] least = {1, 1, 1, 10};
        int[] most = {20, 9, 100, 400};
        for (int s = 0; s < 4; s++) {
            due("below the least", x.set(s, least[s] - 1), BAD_VALUE);
            due("above the most", x.set(s, most[s] + 1), BAD_VALUE);
            due("far off", x.set(s, Integer.MIN_VALUE), BAD_VALUE);
            due("far off", x.set(s, Integer.MAX_VALUE), BAD_VALUE);
            due("to the least", x.set(s, least[s]), first[s]);
            due("to the most", x.set(s, most[s]), least[s]);
            due("as it is", x.count(9 + s), most[s]);
        }
        due("no such", x.set(-1, 5), BAD_VALUE);
        due("no such", x.set(4, 15), BAD_VALUE);
        fresh(2);
        x.cue(0, 1, 0, 10);
        x.set(RadioCues.SLAM, 3);
        x.pass(1);
        x.set(RadioCues.SLAM, 1);
        x.pass(1);
        due("a door that is heard stays so", x.ofChannel(0, 2), 1);
        x.pass(1);
        due("for its seconds", x.ofChannel(0, 2), 0);
        due("in its last second", x.loud(2), 10);
    }

    private static void sound() {
        fresh(3);
        due("no reel", x.sound(-1, 0, 0), NO_SUCH);
        due("no reel", x.sound(4, 1, 1), NO_SUCH);
        due("too short", x.sound(0, 0, 1), BAD_VALUE);
        due("too long", x.sound(0, 61, 1), BAD_VALUE);
        due("too low", x.sound(0, 1, 0), BAD_VALUE);
        due("too loud", x.sound(0, 1, 100), BAD_VALUE);
        due("least", x.sound(3, 1, 1), 0);
        due("most", x.sound(3, 60, 99), 1);
        for (int n = 2; n < 6; n++) {
            due("number", x.sound(3, n, 10 * n), n);
        }
        due("a seventh", x.sound(3, 1, 1), TOO_MANY);
        due("a bad seventh", x.sound(3, 61, 1), BAD_VALUE);
        due("another reel", x.sound(2, 1, 1), 0);
        due("the end of the tape", x.ofSound(3, 5, 2), 1 + 60 + 2 + 3 + 4);
    }

    private static void cue() {
        fresh(4);
        x.sound(1, 5, 60);
        due("second", x.cue(-1, 0, 1, 0), BAD_VALUE);
        due("second", x.cue(1000, 1, 1, 5), BAD_VALUE);
        due("kind", x.cue(0, -1, 1, 0), BAD_VALUE);
        due("kind", x.cue(0, 3, 9, 0), BAD_VALUE);
        due("no reel", x.cue(0, 0, 4, 0), NO_SUCH);
        due("no reel", x.cue(0, 0, -1, 0), NO_SUCH);
        due("no channel", x.cue(0, 1, 4, 0), NO_SUCH);
        due("no channel", x.cue(0, 2, -1, 101), NO_SUCH);
        due("no sound", x.cue(0, 0, 1, 1), NO_SUCH);
        due("no sound", x.cue(0, 0, 1, -1), NO_SUCH);
        due("no sound", x.cue(0, 0, 0, 0), NO_SUCH);
        due("loudness", x.cue(0, 1, 0, 0), BAD_VALUE);
        due("loudness", x.cue(0, 1, 0, 100), BAD_VALUE);
        due("goal", x.cue(0, 2, 0, -1), BAD_VALUE);
        due("goal", x.cue(0, 2, 0, 101), BAD_VALUE);
        x.pass(3);
        due("ahead of now", x.cue(2, 1, 0, 5), NOT_POSSIBLE);
        due("first a value", x.cue(2, 1, 0, 0), BAD_VALUE);
        due("now", x.cue(3, 1, 0, 1), 0);
        due("the last second", x.cue(999, 1, 3, 99), 1);
        due("a sound between", x.cue(500, 0, 1, 0), 1);
        due("behind its second", x.cue(500, 2, 0, 0), 2);
        due("behind its second", x.cue(500, 2, 3, 100), 3);
        due("ahead of them", x.cue(499, 1, 2, 7), 1);
        due("order", x.ofCue(2, 1), 0);
        due("order", x.ofCue(3, 2), 0);
        due("order", x.ofCue(4, 2), 3);
        for (int n = 6; n < 24; n++) {
            due("more", x.cue(3, 1, 0, 1), n - 5);
        }
        due("a 25th", x.cue(3, 1, 0, 1), TOO_MANY);
        due("first the second", x.cue(2, 1, 0, 1), NOT_POSSIBLE);
        due("cues", x.count(1), 24);
    }

    private static void takeOut() {
        fresh(5);
        due("none", x.takeOut(0), NO_SUCH);
        for (int n = 0; n < 4; n++) {
            x.cue(n, 1, 0, 10 + n);
        }
        x.pass(1);
        due("below", x.takeOut(-1), NO_SUCH);
        due("above", x.takeOut(4), NO_SUCH);
        due("done", x.takeOut(0), NOT_POSSIBLE);
        due("left", x.takeOut(2), 3);
        due("behind it", x.ofCue(2, 3), 13);
        due("ahead of it", x.ofCue(1, 3), 11);
        due("gone", x.ofCue(3, 3), NO_SUCH);
        due("left", x.takeOut(2), 2);
        due("left", x.takeOut(1), 1);
        x.pass(5);
        due("never came", x.loud(2), 0);
        due("missed ones stay, too", missedStays(), NOT_POSSIBLE);
    }

    private static int missedStays() {
        x.sound(0, 5, 5);
        x.sound(0, 5, 5);
        x.cue(6, 0, 0, 1);
        x.pass(1);
        return x.takeOut(1);
    }

    private static void move() {
        fresh(6);
        due("none", x.move(0, 1), NO_SUCH);
        for (int n = 0; n < 5; n++) {
            x.cue(n < 2 ? 0 : 10, 1, 0, 10 + n);
        }
        due("behind the others of its own second", x.move(2, 10), 4);
        due("order", x.ofCue(2, 3) * 10000 + x.ofCue(3, 3) * 100 + x.ofCue(4, 3), 131412);
        due("to a lower one", x.move(4, 0), 2);
        due("order", x.ofCue(2, 3), 12);
        due("its second", x.ofCue(2, 0), 0);
        due("to the last one", x.move(0, 999), 4);
        due("order", x.ofCue(0, 3), 11);
        due("back", x.move(4, 0), 2);
        due("no cue", x.move(5, 1000), NO_SUCH);
        due("no cue", x.move(-1, 1), NO_SUCH);
        due("second", x.move(0, -1), BAD_VALUE);
        due("second", x.move(0, 1000), BAD_VALUE);
        x.pass(3);
        due("done", x.move(0, 50), NOT_POSSIBLE);
        due("first the value", x.move(0, 1000), BAD_VALUE);
        due("ahead of now", x.move(3, 2), NOT_POSSIBLE);
        due("now", x.move(4, 3), 3);
        x.pass(1);
        due("it came", x.ofCue(3, 4), 1);
        due("heard", x.loud(3), 14);
    }

    private static void goal() {
        fresh(7);
        due("no channel", x.goal(-1, 101), NO_SUCH);
        due("no channel", x.goal(4, 0), NO_SUCH);
        due("value", x.goal(0, -1), BAD_VALUE);
        due("value", x.goal(0, 101), BAD_VALUE);
        due("previous", x.goal(3, 100), 50);
        due("previous", x.goal(3, 0), 100);
        due("goal", x.ofChannel(3, 1), 0);
        due("the level goes by and by", x.ofChannel(3, 0), 50);
        due("another channel", x.ofChannel(2, 1), 50);
    }

    private static void begin() {
        fresh(8);
        due("at once", x.begin(), 0);
        x.set(RadioCues.WIND, 3);
        x.set(RadioCues.SLAM, 9);
        x.sound(0, 2, 50);
        x.sound(0, 9, 50);
        x.sound(1, 9, 50);
        x.cue(0, 0, 0, 0);
        x.cue(1, 0, 0, 0);
        x.cue(3, 0, 1, 0);
        x.cue(3, 1, 2, 20);
        x.cue(3, 2, 2, 100);
        x.cue(4, 0, 0, 0);
        x.cue(6, 0, 0, 1);
        x.goal(3, 0);
        x.goal(0, 0);
        x.pass(5);
        due("the second that was", x.begin(), 5);
        int[] counts = {0, 7, 7, 0, 0, 0, NONE, 0, 0, 3, 9};
        for (int what = 0; what < counts.length; what++) {
            due("count(" + what + ")", x.count(what), counts[what]);
        }
        for (int k = 0; k < 4; k++) {
            due("place", x.ofReel(k, 0), 0);
            due("playing", x.ofReel(k, 1), NONE);
            due("left", x.ofReel(k, 2), 0);
            due("level", x.ofChannel(k, 0), 50);
            due("goal", x.ofChannel(k, 1), 50);
            due("doors", x.ofChannel(k, 2), 0);
        }
        due("sounds stay", x.ofReel(0, 4), 11);
        due("never played", x.ofSound(0, 0, 3), 0);
        due("nothing played", x.played(0, 0), NO_SUCH);
        due("nothing heard", x.loud(0), NO_SUCH);
        x.pass(5);
        due("the same again", x.count(3), 5);
        due("played", x.ofSound(0, 0, 3), 2);
        due("as often, in the order", x.played(0, 2), 2);
        due("from the first cue on", x.ofCue(0, 4), 1);
        due("a sound and a door again", x.loud(3), 50 + 20 * 60 / 50);
        x.begin();
        x.takeOut(0);
        x.takeOut(0);
        x.set(RadioCues.LOUD, 40);
        x.pass(2);
        due("what was heard ahead of it does not count", x.count(7), 0);
        due("what was heard ahead of it does not count", x.count(6), 0);
    }

    private static void passCues() {
        fresh(9);
        x.sound(0, 3, 60);
        x.sound(0, 2, 40);
        x.cue(0, 0, 0, 0);
        x.cue(0, 0, 0, 1);
        x.cue(2, 0, 0, 1);
        x.cue(3, 0, 0, 1);
        x.cue(5, 0, 0, 0);
        x.cue(6, 0, 0, 0);
        due("the reel plays already", x.pass(1), 1);
        due("by ranks", x.ofCue(0, 4) * 10 + x.ofCue(1, 4), 12);
        due("left", x.ofReel(0, 2), 2);
        due("it plays yet", x.pass(2), 1);
        due("missed as it played", x.ofCue(2, 4), 2);
        due("played to its end", x.ofReel(0, 1), NONE);
        due("free at once, and there", x.pass(1), 0);
        due("plays", x.ofReel(0, 1), 1);
        due("place", x.ofReel(0, 0), 4);
        due("ends, and winds", x.pass(1), 0);
        due("in the second of its end", x.ofReel(0, 0), 1);
        due("not there", x.pass(1), 1);
        due("missed as it was not there", x.ofCue(4, 4), 3);
        due("wound on to the next one", x.ofReel(0, 0), 0);
        due("there", x.pass(1), 0);
        due("done", x.ofCue(5, 4), 1);
        due("both in several seconds", twice(), 2);
    }

    private static int twice() {
        x.begin();
        return x.pass(5);
    }

    private static void passLevels() {
        fresh(9);
        x.set(RadioCues.FADE, 30);
        x.sound(2, 9, 99);
        x.cue(0, 0, 2, 0);
        x.cue(0, 2, 2, 100);
        x.cue(0, 1, 2, 33);
        x.cue(3, 2, 2, 5);
        x.pass(4);
        due("the level goes ahead of what is heard, each by itself", x.loud(0), 99 * 80 / 50 + 33 * 80 / 50);
        due("not beyond", x.loud(1), 198 + 66);
        due("the door is silent", x.loud(2), 198);
        due("a goal of a cue counts in its second", x.loud(3), 99 * 70 / 50);
        due("down", x.ofChannel(2, 0), 70);
        x.pass(2);
        due("down", x.ofChannel(2, 0), 10);
        x.pass(1);
        due("not below", x.ofChannel(2, 0), 5);
        due("rounded down", x.loud(6), 9);
        due("other channels stand", x.ofChannel(1, 0), 50);
        for (int k = 0; k < 4; k++) {
            x.goal(k, 20 + k);
        }
        x.pass(1);
        for (int k = 0; k < 4; k++) {
            due("each channel by itself", x.ofChannel(k, 0), 20 + k);
        }
    }

    private static void passWinding() {
        fresh(9);
        x.sound(0, 10, 10);
        x.sound(0, 1, 10);
        x.sound(1, 10, 10);
        x.sound(1, 1, 10);
        x.cue(9, 0, 0, 1);
        x.pass(2);
        due("forth", x.ofReel(0, 0), 8);
        due("without a cue it stands", x.ofReel(1, 0), 0);
        x.pass(1);
        due("not beyond", x.ofReel(0, 0), 10);
        x.cue(8, 0, 0, 0);
        x.pass(1);
        due("back, to the first one that is to come", x.ofReel(0, 0), 6);
        x.takeOut(0);
        x.pass(1);
        due("forth again", x.ofReel(0, 0), 10);
        x.cue(5, 0, 0, 0);
        x.pass(1);
        due("missed, and on to the next", x.ofReel(0, 0), 10);
        due("missed", x.ofCue(0, 4), 3);
        x.cue(8, 0, 0, 0);
        x.set(RadioCues.WIND, 1);
        x.pass(1);
        due("by WIND", x.ofReel(0, 0), 9);
    }

    private static void passDoors() {
        fresh(9);
        x.cue(0, 1, 0, 10);
        x.cue(1, 1, 0, 20);
        x.cue(1, 1, 3, 40);
        x.set(RadioCues.SLAM, 2);
        due("no cue is missed", x.pass(4), 0);
        due("with this one", x.loud(0), 10);
        due("together", x.loud(1), 70);
        due("the older one ends", x.loud(2), 60);
        due("all end", x.loud(3), 0);
        x.begin();
        x.set(RadioCues.SLAM, 1);
        x.pass(2);
        due("one second", x.loud(1), 60);
        due("one second", x.ofChannel(0, 2), 0);
    }

    private static void passBounds() {
        fresh(9);
        due("least", x.pass(0), BAD_VALUE);
        due("least", x.pass(Integer.MIN_VALUE), BAD_VALUE);
        due("most", x.pass(201), BAD_VALUE);
        due("most", x.pass(Integer.MAX_VALUE), BAD_VALUE);
        due("passes", x.pass(200), 0);
        pass(799);
        due("now", x.count(0), 999);
        due("a cue at the last second", x.cue(999, 1, 0, 5), 0);
        x.pass(1);
        due("came", x.ofCue(0, 4), 1);
        due("above 1200", x.pass(201), BAD_VALUE);
        x.pass(1);
        due("above 1200", x.pass(200), NOT_POSSIBLE);
        due("to 1200", x.pass(199), 0);
        due("above 1200", x.pass(1), NOT_POSSIBLE);
        due("now", x.count(0), 1200);
        due("heard", x.loud(1199), 0);
        due("all heard", x.count(6), 999);
    }

    private static void ofCue() {
        fresh(10);
        x.sound(2, 7, 70);
        x.sound(2, 7, 70);
        x.cue(4, 0, 2, 1);
        x.cue(4, 1, 3, 99);
        x.cue(0, 2, 1, 0);
        int[][] all = {{0, 2, 1, 0, 0}, {4, 0, 2, 1, 0}, {4, 1, 3, 99, 0}};
        for (int cue = 0; cue < 3; cue++) {
            for (int what = 0; what < 5; what++) {
                due("ofCue(" + cue + ", " + what + ")", x.ofCue(cue, what), all[cue][what]);
            }
        }
        x.pass(1);
        due("done", x.ofCue(0, 4), 1);
        due("to come", x.ofCue(1, 4), 0);
        due("below", x.ofCue(-1, 0), NO_SUCH);
        due("above", x.ofCue(3, 9), NO_SUCH);
        due("what", x.ofCue(0, -1), BAD_VALUE);
        due("what", x.ofCue(0, 5), BAD_VALUE);
    }

    private static void ofReel() {
        fresh(11);
        x.sound(3, 5, 1);
        x.sound(3, 8, 1);
        x.cue(1, 1, 3, 5);
        x.cue(1, 0, 3, 0);
        x.cue(2, 0, 3, 1);
        due("next", x.ofReel(3, 5), 1);
        x.pass(2);
        int[] reel = {1, 0, 4, 2, 13, 2};
        for (int what = 0; what < reel.length; what++) {
            due("ofReel(3, " + what + ")", x.ofReel(3, what), reel[what]);
        }
        x.pass(4);
        due("place", x.ofReel(3, 0), 5);
        due("silent", x.ofReel(3, 1), NONE);
        due("left", x.ofReel(3, 2), 0);
        due("no next", x.ofReel(3, 5), NONE);
        due("another's cue is not its own", x.ofReel(1, 5), NONE);
        due("empty tape", x.ofReel(1, 4), 0);
        due("below", x.ofReel(-1, 0), NO_SUCH);
        due("above", x.ofReel(4, 9), NO_SUCH);
        due("what", x.ofReel(0, -1), BAD_VALUE);
        due("what", x.ofReel(0, 6), BAD_VALUE);
    }

    private static void ofSound() {
        fresh(12);
        x.sound(1, 5, 11);
        x.sound(1, 8, 12);
        x.sound(1, 60, 13);
        int[][] all = {{5, 11, 0, 0}, {8, 12, 5, 0}, {60, 13, 13, 0}};
        for (int n = 0; n < 3; n++) {
            for (int what = 0; what < 4; what++) {
                due("ofSound(1, " + n + ", " + what + ")", x.ofSound(1, n, what), all[n][what]);
            }
        }
        x.cue(0, 0, 1, 0);
        x.cue(1, 0, 1, 0);
        x.cue(20, 0, 1, 0);
        x.pass(21);
        due("how often", x.ofSound(1, 0, 3), 2);
        due("below", x.ofSound(-1, 0, 0), NO_SUCH);
        due("above", x.ofSound(4, 0, 0), NO_SUCH);
        due("no sound", x.ofSound(1, 3, 9), NO_SUCH);
        due("no sound", x.ofSound(1, -1, 0), NO_SUCH);
        due("what", x.ofSound(1, 0, -1), BAD_VALUE);
        due("what", x.ofSound(1, 0, 4), BAD_VALUE);
    }

    private static void played() {
        fresh(13);
        x.sound(0, 1, 11);
        x.sound(2, 2, 11);
        x.sound(2, 3, 11);
        x.cue(0, 0, 2, 0);
        x.cue(2, 0, 2, 1);
        x.cue(2, 0, 0, 0);
        x.cue(9, 0, 2, 0);
        due("none", x.played(0, 0), NO_SUCH);
        x.pass(2);
        due("not so many", x.played(1, 9), NO_SUCH);
        x.pass(9);
        int[][] all = {{2, 0, 2}, {2, 1, 1}, {0, 0, 1}};
        for (int rank = 0; rank < 3; rank++) {
            for (int what = 0; what < 3; what++) {
                due("played(" + rank + ", " + what + ")", x.played(rank, what), all[rank][what]);
            }
        }
        due("below", x.played(-1, 0), NO_SUCH);
        due("above", x.played(3, 0), NO_SUCH);
        due("what", x.played(2, -1), BAD_VALUE);
        due("what", x.played(0, 3), BAD_VALUE);
    }

    private static void ofChannel() {
        fresh(14);
        x.goal(1, 80);
        x.cue(0, 1, 1, 5);
        x.cue(1, 1, 1, 5);
        x.cue(1, 1, 2, 5);
        due("not heard ahead of its cue", x.ofChannel(1, 2), 0);
        x.set(RadioCues.SLAM, 3);
        x.pass(2);
        due("level", x.ofChannel(1, 0), 70);
        due("goal", x.ofChannel(1, 1), 80);
        due("doors", x.ofChannel(1, 2), 2);
        due("doors", x.ofChannel(2, 2), 1);
        due("doors", x.ofChannel(0, 2), 0);
        x.pass(1);
        due("the older one ended", x.ofChannel(1, 2), 1);
        due("below", x.ofChannel(-1, 0), NO_SUCH);
        due("above", x.ofChannel(4, 9), NO_SUCH);
        due("what", x.ofChannel(0, -1), BAD_VALUE);
        due("what", x.ofChannel(0, 3), BAD_VALUE);
    }

    private static void loud() {
        fresh(15);
        due("not over", x.loud(0), NO_SUCH);
        x.sound(0, 2, 30);
        x.cue(1, 0, 0, 0);
        x.cue(2, 1, 1, 40);
        x.pass(4);
        int[] heard = {0, 30, 70, 40};
        for (int second = 0; second < 4; second++) {
            due("loud(" + second + ")", x.loud(second), heard[second]);
        }
        due("not over", x.loud(4), NO_SUCH);
        due("below", x.loud(-1), NO_SUCH);
        due("far off", x.loud(Integer.MIN_VALUE), NO_SUCH);
        due("far off", x.loud(Integer.MAX_VALUE), NO_SUCH);
        pass(1196);
        due("the last one", x.loud(1199), 0);
        due("not over", x.loud(1200), NO_SUCH);
    }

    private static void count() {
        fresh(16);
        x.sound(0, 4, 75);
        x.sound(3, 4, 75);
        x.cue(1, 0, 0, 0);
        x.cue(1, 0, 3, 0);
        x.cue(2, 0, 3, 0);
        x.cue(6, 0, 3, 0);
        x.cue(9, 1, 1, 1);
        x.pass(2);
        due("reels that play", x.count(8), 9);
        due("150 is not too loud", x.count(7), 0);
        due("loudest", x.count(6), 1);
        x.pass(5);
        int[] counts = {7, 5, 1, 3, 1, 0, 1, 0, 8, 4, 2, 10, 150, 0, 6};
        for (int what = 0; what < counts.length; what++) {
            due("count(" + what + ")", x.count(what), counts[what]);
        }
        x.set(RadioCues.LOUD, 149);
        due("by LOUD as it is now", x.count(7), 4);
        x.set(RadioCues.LOUD, 74);
        due("by LOUD as it is now", x.count(7), 5);
        x.sound(3, 1, 1);
        x.cue(8, 0, 3, 1);
        x.cue(11, 0, 3, 1);
        x.pass(2);
        due("missed as it played", x.count(4), 2);
        x.cue(9, 0, 0, 0);
        x.pass(1);
        due("not there", x.count(5), 1);
        type("abc");
        due("pad", x.count(13), 3);
        due("what", x.count(-1), BAD_VALUE);
        due("what", x.count(15), BAD_VALUE);
        fresh(16);
        x.set(RadioCues.SLAM, 1);
        x.set(RadioCues.LOUD, 10);
        for (int n = 0; n < 5; n++) {
            x.cue(n, 1, 0, 11 + n);
        }
        x.pass(2);
        due("louder by one", x.count(6), 1);
        due("louder by one than LOUD", x.count(7), 2);
        x.pass(3);
        x.undo();
        due("seconds that are not over any more", x.count(6), 1);
        due("seconds that are not over any more", x.count(7), 2);
        x.save(0);
        x.pass(3);
        x.restore(0);
        due("seconds that are not over any more", x.count(6), 1);
        due("seconds that are not over any more", x.count(7), 2);
        fresh(16);
        x.goal(0, 1);
        x.goal(0, 1);
        due("can be undone", x.count(14), 2);
        x.pass(3);
        due("of silent ones the first", x.count(6), 0);
    }

    private static void rest() {
        fresh(17);
        int[] nothing = {0, 0, NONE, 0, 0};
        for (int what = 0; what < 5; what++) {
            due("rest(" + what + ")", x.rest(what), nothing[what]);
        }
        x.pass(10);
        for (int what = 0; what < 5; what++) {
            due("rest(" + what + ")", x.rest(what), nothing[what]);
        }
        x.sound(0, 6, 99);
        x.cue(12, 0, 0, 0);
        x.cue(13, 0, 0, 0);
        x.cue(14, 1, 1, 99);
        x.cue(16, 1, 1, 60);
        int[] ahead = {8, 1, 14, 198, 4};
        for (int what = 0; what < 5; what++) {
            due("rest(" + what + ")", x.rest(what), ahead[what]);
        }
        due("nothing changes", x.count(0), 10);
        due("nothing changes", x.count(2), 4);
        due("nothing changes", x.ofSound(0, 0, 3), 0);
        x.pass(6);
        int[] later = {2, 0, 16, 159, 2};
        for (int what = 0; what < 5; what++) {
            due("rest(" + what + ")", x.rest(what), later[what]);
        }
        x.set(RadioCues.LOUD, 159);
        due("what is as loud is not too loud", x.rest(4), 0);
        x.pass(1);
        due("a sound and a door yet", x.rest(0), 1);
        due("below", x.rest(-1), BAD_VALUE);
        due("above", x.rest(5), BAD_VALUE);
        fresh(17);
        x.set(RadioCues.SLAM, 9);
        x.cue(0, 1, 0, 1);
        x.pass(1);
        due("until no door is heard", x.rest(0), 8);
        x.cue(5, 2, 0, 9);
        x.cue(30, 2, 0, 9);
        due("until no cue is to come", x.rest(0), 30);
        due("silent seconds count", x.rest(2), 1);
        fresh(17);
        x.cue(3, 2, 0, 0);
        due("all silent: the first one", x.rest(2), 0);
        due("all silent", x.rest(3), 0);
        fresh(17);
        x.sound(0, 60, 1);
        x.cue(999, 0, 0, 0);
        due("the longest rest", x.rest(0), 1059);
        pass(1000);
        due("until no reel plays", x.rest(0), 59);
    }

    private static void becomes() {
        fresh(18);
        x.sound(0, 5, 9);
        x.sound(0, 40, 9);
        x.cue(0, 0, 0, 0);
        x.cue(4, 0, 0, 0);
        x.cue(5, 0, 0, 1);
        x.cue(60, 1, 0, 9);
        x.cue(999, 0, 0, 0);
        x.cue(999, 2, 0, 0);
        x.move(4, 46);
        int[] fates = {1, 2, 1, 3, 1, 1};
        for (int cue = 0; cue < 6; cue++) {
            due("becomes(" + cue + ")", x.becomes(cue), fates[cue]);
        }
        due("nothing changes", x.count(2), 6);
        x.pass(5);
        due("it came", x.becomes(1), 2);
        due("it came", x.becomes(0), 1);
        due("below", x.becomes(-1), NO_SUCH);
        due("above", x.becomes(6), NO_SUCH);
    }

    private static void leastWind() {
        fresh(19);
        due("no cue", x.leastWind(), 1);
        x.sound(0, 40, 9);
        x.sound(0, 1, 9);
        x.cue(2, 0, 0, 1);
        due("least", x.leastWind(), 20);
        x.move(0, 3);
        due("rounded up", x.leastWind(), 14);
        x.move(0, 1);
        due("none does", x.leastWind(), NONE);
        x.move(0, 40);
        due("slowly", x.leastWind(), 1);
        x.move(0, 39);
        due("not so slowly", x.leastWind(), 2);
        x.set(RadioCues.WIND, 20);
        due("whatever WIND is now", x.leastWind(), 2);
        due("nothing changes", x.count(9), 20);
        x.cue(41, 0, 0, 0);
        due("there and back", x.leastWind(), NONE);
        x.move(1, 42);
        due("the second of its end is for winding, too: 41 in three", x.leastWind(), 14);
        x.move(0, 38);
        due("there and back: 41 in four", x.leastWind(), 11);
        x.begin();
        x.move(0, 0);
        x.pass(1);
        due("what is missed already does not count", x.leastWind(), 1);
        x.cue(60, 0, 0, 0);
        due("a reel that plays", x.leastWind(), NONE);
        for (int way = 1; way <= 21; way++) {
            fresh(19);
            x.sound(2, way, 9);
            x.sound(2, 1, 9);
            x.cue(1, 0, 2, 1);
            due("a way of " + way + " in one second", x.leastWind(), way > 20 ? NONE : way);
        }
    }

    private static void ifMoved() {
        fresh(20);
        x.sound(0, 5, 9);
        x.sound(1, 5, 9);
        x.cue(0, 0, 0, 0);
        x.cue(2, 0, 0, 0);
        x.cue(2, 0, 1, 0);
        x.cue(5, 0, 1, 0);
        due("two are missed now", x.rest(1), 2);
        due("as it stands", x.ifMoved(1, 2), 2);
        due("one is mended", x.ifMoved(1, 20), 1);
        due("one more mended", x.ifMoved(2, 0), 2);
        due("behind the others", x.ifMoved(0, 2), 2);
        due("nothing changes", x.ofCue(1, 0), 2);
        due("no change to be undone", x.count(14), 6);
        due("no cue", x.ifMoved(4, 1000), NO_SUCH);
        due("no cue", x.ifMoved(-1, 0), NO_SUCH);
        due("second", x.ifMoved(0, -1), BAD_VALUE);
        due("second", x.ifMoved(0, 1000), BAD_VALUE);
        x.pass(3);
        due("came", x.ifMoved(0, 9), NOT_POSSIBLE);
        due("first the value", x.ifMoved(0, 1000), BAD_VALUE);
        due("ahead of now", x.ifMoved(3, 2), NOT_POSSIBLE);
        due("only the rest", x.ifMoved(3, 3), 1);
        due("only the rest", x.ifMoved(3, 12), 0);
        x.begin();
        due("behind the others of second 0", x.ifMoved(3, 0), 2);
        due("to the first rank, one missed each time", aheadOfTwo(), 3);
        due("order of ranks", rankMatters(), 1);
    }

    private static int aheadOfTwo() {
        x.takeOut(0);
        return x.ifMoved(0, 0) + x.ifMoved(1, 0) + x.ifMoved(2, 0);
    }

    /** Two cues of one second: moved to its own second, the first one comes behind the other. */
    private static int rankMatters() {
        x = new RadioCues();
        x.sound(0, 5, 9);
        x.sound(0, 5, 9);
        x.cue(5, 0, 0, 1);
        x.cue(5, 0, 0, 0);
        x.cue(7, 0, 0, 1);
        return x.rest(1) * 10 + x.ifMoved(0, 5) == 22 && x.ifMoved(1, 12) == 1 ? 1 : 0;
    }

    private static void readyIn() {
        fresh(21);
        x.sound(0, 9, 9);
        x.sound(0, 3, 9);
        x.sound(0, 1, 9);
        due("it stands there", x.readyIn(0, 0), 0);
        due("rounded up", x.readyIn(0, 1), 3);
        due("just so", x.readyIn(0, 2), 3);
        x.set(RadioCues.WIND, 9);
        due("by WIND", x.readyIn(0, 1), 1);
        due("by WIND", x.readyIn(0, 2), 2);
        x.set(RadioCues.WIND, 4);
        x.cue(0, 0, 0, 0);
        x.cue(1, 0, 0, 2);
        due("it does not play yet", x.readyIn(0, 0), 0);
        x.pass(1);
        due("behind what it plays", x.readyIn(0, 1), 8);
        due("wound in the second of the end", x.readyIn(0, 2), 8);
        due("back", x.readyIn(0, 0), 10);
        x.pass(7);
        due("its last second", x.readyIn(0, 1), 1);
        due("its last second", x.readyIn(0, 2), 1);
        x.pass(1);
        due("over", x.readyIn(0, 1), 0);
        due("over", x.readyIn(0, 0), 3);
        x.set(RadioCues.WIND, 1);
        due("slowly", x.readyIn(0, 0), 9);
        due("no reel", x.readyIn(-1, 0), NO_SUCH);
        due("no reel", x.readyIn(4, 0), NO_SUCH);
        due("no sound", x.readyIn(0, 3), NO_SUCH);
        due("no sound", x.readyIn(0, -1), NO_SUCH);
        due("no sound", x.readyIn(1, 0), NO_SUCH);
    }

    private static void put() {
        fresh(22);
        due("none", x.put(0), BAD_VALUE);
        due("32", x.put(32), BAD_VALUE);
        due("127", x.put(127), BAD_VALUE);
        due("200", x.put(200), BAD_VALUE);
        due("a gap", x.put(0x610000L | 'b'), BAD_VALUE);
        due("a gap at the end", x.put(0x6100L), BAD_VALUE);
        due("a bit on top", x.put(0x0100000000000000L | 'g'), BAD_VALUE);
        due("a bit on top", x.put(0x8000000000000000L), BAD_VALUE);
        due("all bits", x.put(-1), BAD_VALUE);
        due("the highest code of eight", x.put(0xFF67303B67303B67L), BAD_VALUE);
        due("nothing came", x.count(13), 0);
        due("33", x.put(33), 1);
        due("126", x.put(126), 2);
        due("eight", x.put(packed("r0+1*1;g")), 10);
        x.wipe();
        due("order", x.put(packed("g1")), 2);
        due("order", x.put(packed("2;g3")), 6);
        due("read so", x.carryOut(), 2);
        due("12 and 3 seconds", x.count(0), 15);
        for (int n = 1; n <= 9; n++) {
            due("eight more", x.put(packed("g1;g1;g1")), 8 * n);
        }
        due("seven", x.put(packed(";g2;g23")), 79);
        due("too many", x.put(packed("ab")), TOO_MANY);
        due("first the value", x.put(packed("a ")), BAD_VALUE);
        due("80", x.put('a'), 80);
        due("81", x.put('a'), TOO_MANY);
        due("no change", x.count(14), 1);
    }

    private static void wipe() {
        fresh(23);
        due("empty", x.wipe(), 0);
        type("abcde");
        due("its length", x.wipe(), 5);
        due("empty", x.count(13), 0);
        due("empty", x.wipe(), 0);
        type("g4");
        due("a new text", x.fault(), NONE);
        due("no change", x.count(14), 0);
    }

    private static void faultOf(String text, int want) {
        x.wipe();
        type(text);
        due("the fault of \"" + text + "\"", x.fault(), want);
    }

    private static void fault() {
        fresh(24);
        due("empty", x.fault(), 0);
        String[] good = {"r0+1*2", "r9+0*999", "s0:00", "s999:99", "d10:3*100", "l1:9=0", "g0", "g999", "g1;g2;g3",
            "r0+1*2;s0:00;d1:0*9;l2:0=5;g12"};
        for (String text : good) {
            faultOf(text, NONE);
            for (int end = 1; end < text.length(); end++) {
                String part = text.substring(0, end);
                if (!part.matches(".*[*=g][0-9]+") && !part.matches(".*s[0-9]+:[0-9][0-9]")) {
                    faultOf(part, end);
                }
            }
        }
        faultOf("x", 0);
        faultOf("R0", 0);
        faultOf("0", 0);
        faultOf(";g1", 0);
        faultOf("g1;;", 3);
        faultOf("g1;", 3);
        faultOf("g1g2", 2);
        faultOf("g", 1);
        faultOf("g+", 1);
        faultOf("g01", 2);
        faultOf("g00", 2);
        faultOf("g1000", 4);
        faultOf("g9999", 4);
        faultOf("g1000;x", 4);
        faultOf("r12", 2);
        faultOf("r0*1", 2);
        faultOf("r0+1+2", 4);
        faultOf("r0+01", 4);
        faultOf("r0+1*", 5);
        faultOf("r0+1*x", 5);
        faultOf("r0+1234", 6);
        faultOf("s:00", 1);
        faultOf("s5*0", 2);
        faultOf("s1000:00", 4);
        faultOf("s5:0", 4);
        faultOf("s5:0;", 4);
        faultOf("s5:012", 5);
        faultOf("d5:0=9", 4);
        faultOf("d5:10*9", 4);
        faultOf("d5:0*1000", 8);
        faultOf("l5:0*9", 4);
        faultOf("l5:0=09", 6);
        faultOf("l5:0=100;g1000", 13);
        faultOf("g1:", 2);
        faultOf("g1/", 2);
        due("nothing is carried out", x.count(0), 0);
        due("it stays", x.count(13), 3);
    }

    private static void carryOut() {
        fresh(25);
        due("an empty pad", x.carryOut(), BAD_TEXT);
        type("g3;");
        due("a fault", x.carryOut(), BAD_TEXT);
        due("it stays", x.count(13), 3);
        due("nothing passed", x.count(0), 0);
        due("no change", x.count(14), 0);
        type("r2+7*90;s5:20;d4:1*30;l6:3=80;g5");
        due("all", x.carryOut(), 6);
        due("the pad is empty", x.count(13), 0);
        due("one change", x.count(14), 1);
        due("seconds", x.count(0), 8);
        due("sound", x.ofSound(2, 0, 0) * 100 + x.ofSound(2, 0, 1), 790);
        int[][] all = {{4, 1, 1, 30, 1}, {5, 0, 2, 0, 1}, {6, 2, 3, 80, 1}};
        for (int cue = 0; cue < 3; cue++) {
            for (int what = 0; what < 5; what++) {
                due("ofCue(" + cue + ", " + what + ")", x.ofCue(cue, what), all[cue][what]);
            }
        }
        due("undone at once", x.undo(), 0);
        due("as it was", x.count(0), 0);
        due("as it was", x.count(1), 0);
        due("the pad is not", x.count(13), 0);
        type("g2;r4+1*1;g2");
        due("up to the first error", x.carryOut(), 1);
        due("what came ahead stays", x.count(0), 2);
        due("the pad is empty", x.count(13), 0);
        type("g0;g1");
        due("none", x.carryOut(), 0);
        due("the pad is empty", x.count(13), 0);
        due("a change, too", x.count(14), 2);
        due("nothing passed", x.count(0), 2);
        String[] wrongOnes = {"r0+61*1", "r0+1*100", "s5:00", "s1:09", "d1:0*5", "d5:4*5", "d5:0*0", "l5:9=0", "l5:0=101",
            "g201"};
        for (String order : wrongOnes) {
            type("g1;" + order + ";g1");
            due("g1 and " + order, x.carryOut(), 1);
        }
        due("each one second", x.count(0), 12);
        pass(1187);
        type("g1;g1");
        due("the bound of seconds", x.carryOut(), 1);
    }

    private static void undo() {
        fresh(26);
        due("none", x.undo(), NOT_POSSIBLE);
        for (int n = 1; n <= 8; n++) {
            x.goal(0, n);
            due("at most six", x.count(14), Math.min(6, n));
        }
        type("g7");
        x.save(1);
        for (int n = 7; n >= 2; n--) {
            due("left", x.undo(), n - 2);
            due("goal", x.ofChannel(0, 1), n);
        }
        due("none", x.undo(), NOT_POSSIBLE);
        due("none", x.count(14), 0);
        due("not the pad", x.count(13), 2);
        due("not the slots", x.restore(1), 0);
        due("not the slots", x.ofChannel(0, 1), 8);
        due("a restore can be undone", x.undo(), 0);
        due("goal", x.ofChannel(0, 1), 2);
        x.goal(0, 60);
        x.goal(0, 60);
        due("also if nothing is different", x.count(14), 2);
        x.undo();
        x.goal(0, 70);
        due("a new change behind one undone", x.count(14), 2);
        x.undo();
        due("goal", x.ofChannel(0, 1), 60);
        x.undo();
        due("goal", x.ofChannel(0, 1), 2);
    }

    private static void save() {
        fresh(27);
        due("below", x.save(-1), BAD_VALUE);
        due("above", x.save(2), BAD_VALUE);
        due("no cue", x.save(0), 0);
        x.cue(1, 1, 0, 5);
        x.cue(2, 1, 0, 6);
        due("cues", x.save(1), 2);
        due("no change", x.count(14), 2);
        x.takeOut(0);
        due("overwritten", x.save(0), 1);
        due("what was saved last", x.restore(0), 1);
        due("it", x.ofCue(0, 3), 6);
        due("the other slot", x.restore(1), 2);
        due("it", x.ofCue(0, 3), 5);
        x.takeOut(0);
        x.takeOut(0);
        due("a slot is not what is at work", x.restore(1), 2);
    }

    private static void restore() {
        fresh(28);
        due("below", x.restore(-1), BAD_VALUE);
        due("above", x.restore(2), BAD_VALUE);
        due("nothing saved", x.restore(0), NOT_POSSIBLE);
        x.set(RadioCues.WIND, 7);
        x.sound(0, 5, 50);
        x.sound(0, 5, 60);
        x.cue(0, 0, 0, 0);
        x.cue(1, 1, 2, 9);
        x.cue(1, 2, 2, 90);
        x.cue(5, 0, 0, 1);
        x.pass(2);
        x.save(0);
        due("the other one", x.restore(1), NOT_POSSIBLE);
        x.pass(20);
        x.set(RadioCues.WIND, 9);
        x.sound(1, 1, 1);
        type("g3");
        due("cues", x.restore(0), 4);
        asSaved();
        due("the pad is not", x.count(13), 2);
        due("it is a change", x.count(14), 6);
        due("which can be undone", x.undo(), 5);
        due("undone", x.count(0) * 100 + x.count(9) * 10 + x.ofReel(1, 3), 2291);
        due("the slot keeps it", x.restore(0), 4);
        asSaved();
        x.begin();
        x.takeOut(0);
        due("the slot keeps it yet", x.restore(0), 4);
        asSaved();
        x.pass(4);
        due("it plays on", x.ofReel(0, 1), 1);
        fresh(28);
        x.save(1);
        x.cue(0, 1, 0, 5);
        x.pass(1);
        x.restore(1);
        x.cue(1, 1, 0, 6);
        due("a cue behind a restore is to come", x.ofCue(0, 4), 0);
        x.pass(2);
        due("and comes", x.loud(1), 6);
    }

    private static void asSaved() {
        int[] counts = {2, 4, 1, 3, 0, 0, 1, 0, 1, 7};
        for (int what = 0; what < counts.length; what++) {
            due("count(" + what + ")", x.count(what), counts[what]);
        }
        due("the reel plays yet", x.ofReel(0, 2), 3);
        due("no sound on another one", x.ofReel(1, 3), 0);
        due("the door", x.ofChannel(2, 2), 1);
        due("the level", x.ofChannel(2, 0), 60);
        due("a cue that came", x.ofCue(0, 4), 1);
        due("heard", x.loud(1), 60);
        due("not heard yet", x.loud(2), NO_SUCH);
    }
}
