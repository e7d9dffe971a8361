import java.util.function.Consumer;
import java.util.function.ToIntFunction;

/**
 * The boundaries of the promises 1 to 28, in their order: each sentence by itself, on both sides of its boundary. Of a call
 * that is refused it is asked which error it returns where several apply, and that nothing is different behind it.
 */
public final class BoundariesTest {
    private static final int NO_SUCH = Bounds.NO_SUCH, BAD_VALUE = Bounds.BAD_VALUE, BAD_TEXT = Bounds.BAD_TEXT,
        TOO_MANY = Bounds.TOO_MANY, NOT_POSSIBLE = Bounds.NOT_POSSIBLE, NONE = Bounds.NONE;
    private static final int WIND = Bounds.WIND, SLAM = Bounds.SLAM, FADE = Bounds.FADE, LOUD = Bounds.LOUD;
    private static final int[] FAR = {Integer.MIN_VALUE, Integer.MAX_VALUE};

    private BoundariesTest() { }

    public static void main(String[] args) {
        newObject();
        set();
        sound();
        cueErrors();
        cueValues();
        cueRanks();
        takeOut();
        moveErrors();
        moveRanks();
        goal();
        begin();
        beginAgain();
        pass();
        passedMissed();
        ofCue();
        ofReel();
        ofSound();
        played();
        ofChannel();
        loud();
        count();
        countedSeconds();
        rest();
        restSeconds();
        becomes();
        leastWind();
        ifMoved();
        readyIn();
        put();
        wipe();
        fault();
        carryOutErrors();
        carryOut();
        undo();
        eachIsAChange();
        sixChanges();
        noneIsAChange();
        save();
        restore();
        restoredIsAll();
        Bounds.end("BoundariesTest");
    }

    private static void says(String words) {
        Bounds.says(words);
    }

    private static void due(String what, int got, int want) {
        Bounds.due(what, got, want);
    }

    private static void still(String what, Consumer<RadioCues> setup, ToIntFunction<RadioCues> call, int want) {
        Bounds.still(what, setup, call, want);
    }

    private static void undoable(String what, Consumer<RadioCues> setup, ToIntFunction<RadioCues> call, int want) {
        Bounds.undoable(what, setup, call, want);
    }

    private static RadioCues fresh() {
        return new RadioCues();
    }

    // ---- 1

    private static void newObject() {
        says("Promise 1: empty reels and an empty script");
        RadioCues x = fresh();
        for (int k = 0; k < 4; k++) {
            due("sounds of a reel", x.ofReel(k, 3), 0);
            due("its tape", x.ofReel(k, 4), 0);
            due("its next cue", x.ofReel(k, 5), NONE);
            due("its first sound", x.ofSound(k, 0, 0), NO_SUCH);
            due("readyIn", x.readyIn(k, 0), NO_SUCH);
        }
        for (int what = 1; what <= 5; what++) {
            due("cues", x.count(what), 0);
        }
        due("the first cue", x.ofCue(0, 0), NO_SUCH);
        due("played", x.played(0, 0), NO_SUCH);
        due("heard", x.loud(0), NO_SUCH);
        due("pad", x.count(13), 0);
        due("history", x.undo(), NOT_POSSIBLE);
        due("slot 0", x.restore(0), NOT_POSSIBLE);
        due("slot 1", x.restore(1), NOT_POSSIBLE);
        says("Promise 1: creates a mixer: what is done to one does not reach another");
        Bounds.same("another one", y -> Stages.later(fresh()), y -> { }, true);
    }

    // ---- 2

    private static void set() {
        says("Promise 2: BAD_VALUE if there is no such setting");
        for (int setting : new int[] {-1, 4, Integer.MIN_VALUE, Integer.MAX_VALUE}) {
            still("set(" + setting + ", 10)", Stages::middle, x -> x.set(setting, 10), BAD_VALUE);
            still("set(" + setting + ", 0)", Stages::middle, x -> x.set(setting, 0), BAD_VALUE);
        }
        undoable("set(0, 10)", Stages::middle, x -> x.set(0, 10), 4);
        undoable("set(3, 10)", Stages::middle, x -> x.set(3, 10), 150);
        says("Promise 2: returns the previous value, also if it is the same");
        undoable("set(0, 4)", Stages::middle, x -> x.set(0, 4), 4);
        undoable("set(1, 5)", Stages::middle, x -> x.set(1, 5), 5);
        says("Promise 2: doors that are heard stay so");
        for (int before = 1; before <= 9; before++) {
            for (int after : new int[] {1, 2, 9}) {
                RadioCues x = fresh();
                x.set(SLAM, before);
                x.cue(0, 1, 0, 40);
                x.cue(20, 1, 0, 40);
                x.pass(1);
                x.set(SLAM, after);
                x.pass(39);
                due("from " + before + " to " + after + ": its last second", x.loud(before - 1), 40);
                due("from " + before + " to " + after + ": none", x.loud(before), 0);
                due("the next door: its last second", x.loud(19 + after), 40);
                due("the next door: none", x.loud(20 + after), 0);
            }
        }
    }

    // ---- 3

    private static void sound() {
        says("Promise 3: NO_SUCH if there is no such reel");
        undoable("the reel 0", Stages::middle, x -> x.sound(0, 1, 1), 2);
        undoable("the reel 3", Stages::middle, x -> x.sound(3, 60, 99), 0);
        for (int reel : new int[] {-1, 4, Integer.MIN_VALUE, Integer.MAX_VALUE}) {
            still("the reel " + reel, Stages::middle, x -> x.sound(reel, 1, 1), NO_SUCH);
            still("the reel " + reel + ", first", Stages::middle, x -> x.sound(reel, 0, 100), NO_SUCH);
        }
        says("Promise 3: BAD_VALUE if seconds or loudness is out of range");
        for (int[] bad : new int[][] {{0, 1}, {61, 1}, {1, 0}, {1, 100}, {0, 0}, {61, 100}, {-5, 5}, {5, -5},
            {FAR[0], 1}, {FAR[1], 1}, {1, FAR[0]}, {1, FAR[1]}}) {
            still("sound(1, " + bad[0] + ", " + bad[1] + ")", Stages::middle, x -> x.sound(1, bad[0], bad[1]), BAD_VALUE);
            still("ahead of TOO_MANY", Stages::full, x -> x.sound(0, bad[0], bad[1]), BAD_VALUE);
        }
        says("Promise 3: TOO_MANY if the reel has 6 sounds");
        Consumer<RadioCues> five = x -> Bounds.carriedOut(x, "r0+5*10;r0+6*11;r0+7*12;r0+8*13;r0+9*14");
        undoable("the sixth", five, x -> x.sound(0, 60, 99), 5);
        still("a seventh", five.andThen(x -> x.sound(0, 60, 99)), x -> x.sound(0, 1, 1), TOO_MANY);
        still("a seventh", Stages::full, x -> x.sound(0, 60, 99), TOO_MANY);
        for (int reel = 0; reel < 4; reel++) {
            RadioCues x = fresh();
            for (int n = 0; n < 6; n++) {
                due("sound " + n + " of the reel " + reel, x.sound(reel, 1, 1), n);
            }
            due("a seventh of the reel " + reel, x.sound(reel, 1, 1), TOO_MANY);
            due("the first one of another", x.sound(3 - reel, 1, 1), 0);
        }
        says("Promise 3: a sound comes, at the end of the tape");
        RadioCues x = Bounds.made(Stages::middle);
        due("its number", x.sound(0, 7, 8), 2);
        due("where it begins", x.ofSound(0, 2, 2), 8);
        due("the tape", x.ofReel(0, 4), 15);
        due("the reel stands as it stood", x.ofReel(0, 0), 4);
        due("it was not played", x.ofSound(0, 2, 3), 0);
    }

    // ---- 4

    private static void cueErrors() {
        Consumer<RadioCues> middle = Stages::middle;
        Consumer<RadioCues> full = Stages::full;
        says("Promise 4: BAD_VALUE if second or kind is out of range");
        for (int bad : new int[] {-1, 1000, FAR[0], FAR[1]}) {
            still("second " + bad, middle, x -> x.cue(bad, 1, 1, 9), BAD_VALUE);
            still("second " + bad + ", ahead of the channel", middle, x -> x.cue(bad, 1, 4, 9), BAD_VALUE);
            still("second " + bad + ", ahead of the sound", middle, x -> x.cue(bad, 0, 2, 0), BAD_VALUE);
            still("second " + bad + ", ahead of TOO_MANY", full, x -> x.cue(bad, 1, 1, 9), BAD_VALUE);
        }
        for (int bad : new int[] {-1, 3, FAR[0], FAR[1]}) {
            still("kind " + bad, middle, x -> x.cue(50, bad, 1, 0), BAD_VALUE);
            still("kind " + bad + ", ahead of the reel", middle, x -> x.cue(50, bad, 4, 0), BAD_VALUE);
            still("kind " + bad + ", ahead of the one now", middle, x -> x.cue(7, bad, 1, 0), BAD_VALUE);
            still("kind " + bad + ", ahead of TOO_MANY", full, x -> x.cue(50, bad, 0, 0), BAD_VALUE);
        }
        says("Promise 4: NO_SUCH if there is no such reel or channel, or no such sound");
        for (int kind = 0; kind <= 2; kind++) {
            int k = kind;
            for (int where : new int[] {-1, 4, FAR[0], FAR[1]}) {
                still("kind " + k + " at " + where, middle, x -> x.cue(50, k, where, 0), NO_SUCH);
                still("kind " + k + " at " + where + ", ahead of the value", middle, x -> x.cue(50, k, where, 101), NO_SUCH);
                still("kind " + k + " at " + where + ", ahead of the one now", middle, x -> x.cue(7, k, where, 1), NO_SUCH);
                still("kind " + k + " at " + where + ", ahead of TOO_MANY", full, x -> x.cue(50, k, where, 1), NO_SUCH);
            }
        }
        for (int none : new int[] {-1, 2, 5, 6, FAR[0], FAR[1]}) {
            still("the sound " + none + " of two", middle, x -> x.cue(50, 0, 0, none), NO_SUCH);
            still("the sound " + none + " of two, ahead of the one now", middle, x -> x.cue(7, 0, 0, none), NO_SUCH);
            still("the sound " + none + " of an empty reel", middle, x -> x.cue(50, 0, 3, none), NO_SUCH);
        }
        still("the sound 0 of an empty reel", middle, x -> x.cue(50, 0, 3, 0), NO_SUCH);
        still("the sound 6 of six, ahead of TOO_MANY", full, x -> x.cue(50, 0, 0, 6), NO_SUCH);
        says("Promise 4: BAD_VALUE if a loudness or goal is out of range");
        for (int bad : new int[] {0, 100, -1, FAR[0], FAR[1]}) {
            still("loudness " + bad, middle, x -> x.cue(50, 1, 0, bad), BAD_VALUE);
            still("loudness " + bad + ", ahead of the one now", middle, x -> x.cue(7, 1, 0, bad), BAD_VALUE);
            still("loudness " + bad + ", ahead of TOO_MANY", full, x -> x.cue(50, 1, 0, bad), BAD_VALUE);
        }
        for (int bad : new int[] {-1, 101, FAR[0], FAR[1]}) {
            still("goal " + bad, middle, x -> x.cue(50, 2, 0, bad), BAD_VALUE);
            still("goal " + bad + ", ahead of the one now", middle, x -> x.cue(7, 2, 0, bad), BAD_VALUE);
            still("goal " + bad + ", ahead of TOO_MANY", full, x -> x.cue(50, 2, 0, bad), BAD_VALUE);
        }
    }

    private static void cueValues() {
        says("Promise 4: second: 0 to 999; kind: 0 to 2; where: 0 to 3; value: a sound of the reel, 1 to 99, 0 to 100");
        Consumer<RadioCues> two = x -> Bounds.carriedOut(x, "r0+5*10;r0+5*10;r3+5*10");
        int[][] all = {{0, 0, 0, 0}, {0, 0, 0, 1}, {999, 0, 3, 0}, {0, 1, 0, 1}, {0, 1, 3, 99}, {999, 1, 0, 99}, {999, 1, 3, 1},
            {0, 2, 0, 0}, {0, 2, 3, 100}, {999, 2, 0, 100}, {999, 2, 3, 0}};
        for (int[] one : all) {
            undoable("cue(" + one[0] + ", " + one[1] + ", " + one[2] + ", " + one[3] + ")", two,
                x -> x.cue(one[0], one[1], one[2], one[3]), 0);
            RadioCues x = Bounds.made(two);
            x.cue(one[0], one[1], one[2], one[3]);
            for (int what = 0; what < 4; what++) {
                due("it", x.ofCue(0, what), one[what]);
            }
            due("it is to come", x.ofCue(0, 4), 0);
        }
        says("Promise 4: NOT_POSSIBLE if the second is ahead of the one now");
        undoable("the one now", Stages::middle, x -> x.cue(8, 1, 0, 9), 6);
        still("the one ahead", Stages::middle, x -> x.cue(7, 1, 0, 9), NOT_POSSIBLE);
        still("the first one", Stages::middle, x -> x.cue(0, 1, 0, 9), NOT_POSSIBLE);
        still("at second 1200", Stages::late, x -> x.cue(999, 1, 0, 9), NOT_POSSIBLE);
        still("ahead of TOO_MANY", Stages::full, x -> x.cue(2, 1, 0, 9), NOT_POSSIBLE);
        RadioCues x = fresh();
        Bounds.pass(x, 999);
        due("999 at second 999", x.cue(999, 1, 0, 9), 0);
        due("998 at second 999", x.cue(998, 1, 0, 9), NOT_POSSIBLE);
        x.pass(1);
        due("999 at second 1000", x.cue(999, 1, 0, 9), NOT_POSSIBLE);
        says("Promise 4: TOO_MANY if there are 24 cues");
        still("the one now", Stages::full, y -> y.cue(3, 1, 0, 9), TOO_MANY);
        still("a sound", Stages::full, y -> y.cue(999, 0, 0, 5), TOO_MANY);
        still("a goal", Stages::full, y -> y.cue(999, 2, 0, 0), TOO_MANY);
        x = Bounds.made(Stages::full);
        due("one out", x.takeOut(23), 23);
        due("a 24th", x.cue(999, 0, 0, 5), 23);
        due("a 25th", x.cue(999, 0, 0, 5), TOO_MANY);
    }

    private static void cueRanks() {
        says("Promise 4: a cue comes, behind the others of its second; returns its rank");
        for (int second = 0; second <= 6; second++) {
            RadioCues x = fresh();
            x.cue(1, 1, 0, 1);
            x.cue(3, 1, 0, 2);
            x.cue(3, 1, 0, 3);
            x.cue(5, 1, 0, 4);
            int rank = new int[] {0, 1, 1, 3, 3, 4, 4}[second];
            due("at second " + second, x.cue(second, 1, 0, 9), rank);
            int other = 1;
            for (int at = 0; at < 5; at++) {
                due("the loudness of the cue " + at, x.ofCue(at, 3), at == rank ? 9 : other++);
            }
        }
    }

    // ---- 5

    private static void takeOut() {
        says("Promise 5: NO_SUCH if there is no such cue");
        still("0 of none", Stages::empty, x -> x.takeOut(0), NO_SUCH);
        still("8 of eight", Stages::middle, x -> x.takeOut(8), NO_SUCH);
        still("-1", Stages::middle, x -> x.takeOut(-1), NO_SUCH);
        still("24 of 24", Stages::full, x -> x.takeOut(24), NO_SUCH);
        for (int far : FAR) {
            still("" + far, Stages::full, x -> x.takeOut(far), NO_SUCH);
        }
        says("Promise 5: NOT_POSSIBLE if it is not to come");
        for (int cue = 0; cue <= 5; cue++) {
            int came = cue;
            still("the cue " + cue + ", done or missed", Stages::middle, x -> x.takeOut(came), NOT_POSSIBLE);
        }
        still("missed as the reel was not there", Stages::later, x -> x.takeOut(6), NOT_POSSIBLE);
        undoable("the first one to come", Stages::middle, x -> x.takeOut(6), 7);
        undoable("the last one to come", Stages::middle, x -> x.takeOut(7), 7);
        says("Promise 5: returns how many cues are left");
        RadioCues x = Bounds.made(Stages::full);
        for (int left = 23; left >= 2; left--) {
            due("left", x.takeOut(left % 2 == 0 ? left : 2), left);
            due("cues", x.count(1), left);
        }
        due("only those that came are left", x.takeOut(0), NOT_POSSIBLE);
        due("only those that came are left", x.takeOut(2), NO_SUCH);
        x.begin();
        due("to come again", x.takeOut(0), 1);
        due("the last one", x.takeOut(0), 0);
        due("none", x.takeOut(0), NO_SUCH);
        for (int out = 0; out < 4; out++) {
            x = fresh();
            for (int n = 0; n < 4; n++) {
                x.cue(5, 1, 0, 1 + n);
            }
            x.takeOut(out);
            for (int n = 0; n < 3; n++) {
                due("the others stay in their order", x.ofCue(n, 3), n < out ? 1 + n : 2 + n);
            }
        }
    }

    // ---- 6

    private static void moveErrors() {
        says("Promise 6: NO_SUCH if there is no such cue");
        still("0 of none", Stages::empty, x -> x.move(0, 5), NO_SUCH);
        for (int none : new int[] {-1, 8, FAR[0], FAR[1]}) {
            still("" + none, Stages::middle, x -> x.move(none, 50), NO_SUCH);
            still(none + ", ahead of the second", Stages::middle, x -> x.move(none, 1000), NO_SUCH);
            still(none + ", ahead of the one now", Stages::middle, x -> x.move(none, 7), NO_SUCH);
        }
        says("Promise 6: BAD_VALUE if second is out of range");
        for (int bad : new int[] {-1, 1000, FAR[0], FAR[1]}) {
            still("one to come to " + bad, Stages::middle, x -> x.move(6, bad), BAD_VALUE);
            still("one that came to " + bad, Stages::middle, x -> x.move(0, bad), BAD_VALUE);
            still("one that was missed to " + bad, Stages::middle, x -> x.move(5, bad), BAD_VALUE);
        }
        undoable("to 999", Stages::middle, x -> x.move(6, 999), 7);
        undoable("to 0", Stages::written, x -> x.move(6, 0), 1);
        says("Promise 6: NOT_POSSIBLE if the cue is not to come");
        for (int cue = 0; cue <= 5; cue++) {
            int came = cue;
            still("the cue " + cue, Stages::middle, x -> x.move(came, 500), NOT_POSSIBLE);
            still("the cue " + cue + ", to its own second", Stages::middle, x -> x.move(came, x.ofCue(came, 0)), NOT_POSSIBLE);
        }
        undoable("the first one to come", Stages::middle, x -> x.move(6, 500), 7);
        says("Promise 6: NOT_POSSIBLE if the second is ahead of the one now");
        still("the one ahead", Stages::middle, x -> x.move(6, 7), NOT_POSSIBLE);
        still("the first one", Stages::middle, x -> x.move(7, 0), NOT_POSSIBLE);
        undoable("the one now", Stages::middle, x -> x.move(7, 8), 6);
        undoable("the one now, by another", Stages::middle, x -> x.move(6, 8), 6);
    }

    private static void moveRanks() {
        says("Promise 6: moves a cue to another second, behind the others there (also to its own one); returns its rank then");
        int[] seconds = {1, 3, 3, 5};
        for (int cue = 0; cue < 4; cue++) {
            for (int second = 0; second <= 6; second++) {
                RadioCues x = fresh();
                int rank = 0;
                for (int n = 0; n < 4; n++) {
                    x.cue(seconds[n], 1, 0, 1 + n);
                    if (n != cue && seconds[n] <= second) {
                        rank++;
                    }
                }
                due("the cue " + cue + " to " + second, x.move(cue, second), rank);
                due("its second", x.ofCue(rank, 0), second);
                int other = cue == 0 ? 1 : 0;
                for (int at = 0; at < 4; at++) {
                    if (at == rank) {
                        due("it", x.ofCue(at, 3), 1 + cue);
                    } else {
                        due("the others stay in their order", x.ofCue(at, 3), 1 + other);
                        due("at their seconds", x.ofCue(at, 0), seconds[other]);
                        other += other + 1 == cue ? 2 : 1;
                    }
                }
            }
        }
        RadioCues x = Bounds.made(Stages::full);
        due("of 24 to the end", x.move(2, 999), 23);
        due("of 24 to the one now", x.move(23, 3), 2);
        due("it is to come", x.ofCue(2, 4), 0);
        undoable("to its own second, alone there", Stages::middle, y -> y.move(7, 60), 7);
    }

    // ---- 7

    private static void goal() {
        says("Promise 7: NO_SUCH if there is no such channel");
        for (int none : new int[] {-1, 4, FAR[0], FAR[1]}) {
            still("" + none, Stages::middle, x -> x.goal(none, 50), NO_SUCH);
            still(none + ", ahead of the goal", Stages::middle, x -> x.goal(none, 101), NO_SUCH);
        }
        undoable("the channel 0", Stages::middle, x -> x.goal(0, 1), 99);
        undoable("the channel 3", Stages::middle, x -> x.goal(3, 1), 50);
        says("Promise 7: BAD_VALUE if goal is out of range");
        for (int bad : new int[] {-1, 101, FAR[0], FAR[1]}) {
            still("" + bad, Stages::middle, x -> x.goal(2, bad), BAD_VALUE);
        }
        undoable("0", Stages::middle, x -> x.goal(2, 0), 50);
        undoable("100", Stages::middle, x -> x.goal(2, 100), 50);
        says("Promise 7: puts a goal to a channel at once; returns the previous goal");
        RadioCues x = fresh();
        due("from 50", x.goal(2, 0), 50);
        due("from 0", x.goal(2, 100), 0);
        due("from 100", x.goal(2, 100), 100);
        due("at once", x.ofChannel(2, 1), 100);
        due("the level stays", x.ofChannel(2, 0), 50);
        x.pass(1);
        due("until a second passes", x.ofChannel(2, 0), 60);
        undoable("the same goal", Stages::middle, y -> y.goal(2, 50), 50);
    }

    // ---- 8

    private static void begin() {
        says("Promise 8: returns the second that was");
        undoable("0", Stages::empty, RadioCues::begin, 0);
        undoable("8", Stages::middle, RadioCues::begin, 8);
        undoable("1200", Stages::late, RadioCues::begin, 1200);
        RadioCues x = Bounds.made(Stages::late);
        x.begin();
        due("1200 again", x.begin(), 0);
        says("Promise 8: all cues are to come");
        x = Bounds.made(Stages::later);
        due("cues", x.count(1), 9);
        due("to come ahead of it", x.count(2), 2);
        due("it", x.begin(), 9);
        due("to come", x.count(2), 9);
        due("done", x.count(3), 0);
        due("missed as the reel played", x.count(4), 0);
        due("missed as it was not there", x.count(5), 0);
        due("a cue at second 0 again", x.cue(0, 1, 0, 9), 1);
        says("Promise 8: reels stand at 0 and do not play");
        x = fresh();
        for (int k = 0; k < 4; k++) {
            x.sound(k, 9, 9);
            x.cue(k, 0, k, 0);
        }
        x.cue(20, 0, 0, 0);
        x.pass(10);
        x.begin();
        for (int k = 0; k < 4; k++) {
            due("place", x.ofReel(k, 0), 0);
            due("plays", x.ofReel(k, 1), NONE);
            due("left", x.ofReel(k, 2), 0);
            due("sounds stay", x.ofReel(k, 3), 1);
        }
        due("the set", x.count(8), 0);
        due("there", x.readyIn(1, 0), 0);
        says("Promise 8: no door is heard");
        x = fresh();
        x.set(SLAM, 9);
        for (int k = 0; k < 4; k++) {
            x.cue(0, 1, k, 90);
        }
        x.pass(1);
        x.begin();
        for (int k = 0; k < 4; k++) {
            due("doors", x.ofChannel(k, 2), 0);
            x.takeOut(0);
        }
        x.pass(1);
        due("silent", x.loud(0), 0);
        x.cue(1, 1, 0, 7);
        x.begin();
        x.move(0, 0);
        x.pass(1);
        due("but those of the play anew, from second 0 on", x.loud(0), 7);
    }

    private static void beginAgain() {
        says("Promise 8: levels and goals are 50");
        RadioCues x = fresh();
        x.set(FADE, 100);
        for (int k = 0; k < 4; k++) {
            x.goal(k, k % 2 * 100);
        }
        x.pass(1);
        x.begin();
        for (int k = 0; k < 4; k++) {
            due("level", x.ofChannel(k, 0), 50);
            due("goal", x.ofChannel(k, 1), 50);
        }
        x.pass(1);
        due("they stay", x.ofChannel(0, 0), 50);
        says("Promise 8: settings stay");
        int[] settings = {1, 9, 33, 400};
        for (int setting = 0; setting < 4; setting++) {
            x.set(setting, settings[setting]);
        }
        x.begin();
        for (int setting = 0; setting < 4; setting++) {
            due("the setting " + setting, x.count(9 + setting), settings[setting]);
        }
        says("Promise 8: nothing was heard");
        x = Bounds.made(Stages::later);
        due("played ahead of it", x.played(2, 0), 1);
        x.begin();
        due("loud(0)", x.loud(0), NO_SUCH);
        due("the loudest", x.count(6), NONE);
        due("too loud", x.count(7), 0);
        due("played", x.played(0, 0), NO_SUCH);
        for (int n = 0; n < 2; n++) {
            due("how often", x.ofSound(0, n, 3), 0);
        }
        x.pass(1);
        due("the loudest of one", x.count(6), 0);
        due("loud(0)", x.loud(0), 60);
        due("loud(1)", x.loud(1), NO_SUCH);
        says("Promise 8: the play anew is as a play of a new object with the same script");
        Consumer<RadioCues> script = y -> Bounds.carriedOut(y, "r0+5*60;r0+3*90;r1+9*50;s0:00;s5:01;s5:10;d6:2*80;l3:0=99");
        Bounds.same("begin(), then everything", script.andThen(y -> y.pass(7)).andThen(RadioCues::begin), script, false);
        Bounds.same("begin(), pass(7), then everything", script.andThen(y -> y.pass(9)).andThen(RadioCues::begin)
            .andThen(y -> y.pass(7)), script.andThen(y -> y.pass(7)), false);
    }

    // ---- 9

    private static void pass() {
        says("Promise 9: BAD_VALUE if seconds is out of range");
        for (int bad : new int[] {0, 201, -1, 1201, FAR[0], FAR[1]}) {
            still("pass(" + bad + ")", Stages::middle, x -> x.pass(bad), BAD_VALUE);
            still("pass(" + bad + "), ahead of 1200", Stages::late, x -> x.pass(bad), BAD_VALUE);
        }
        undoable("1", Stages::middle, x -> x.pass(1), 0);
        undoable("200", Stages::middle, x -> x.pass(200), 0);
        RadioCues x = fresh();
        x.pass(1);
        due("1", x.count(0), 1);
        x.pass(200);
        due("200", x.count(0), 201);
        says("Promise 9: NOT_POSSIBLE if the second now would be above 1200");
        still("1 at 1200", Stages::late, y -> y.pass(1), NOT_POSSIBLE);
        still("200 at 1200", Stages::late, y -> y.pass(200), NOT_POSSIBLE);
        for (int now : new int[] {1000, 1001, 1100, 1199}) {
            int left = 1200 - now;
            Consumer<RadioCues> setup = y -> Bounds.pass(y, now);
            if (left < 200) {
                still((left + 1) + " at " + now, setup, y -> y.pass(left + 1), NOT_POSSIBLE);
                still("200 at " + now, setup, y -> y.pass(200), NOT_POSSIBLE);
            }
            RadioCues y = Bounds.made(setup);
            due("now", y.count(0), now);
            due(left + " at " + now, y.pass(left), 0);
            due("now", y.count(0), 1200);
            due("1 at 1200", y.pass(1), NOT_POSSIBLE);
        }
    }

    private static void passedMissed() {
        says("Promise 9: returns how many cues are missed in them");
        RadioCues x = fresh();
        x.sound(0, 3, 9);
        x.sound(0, 3, 9);
        x.cue(0, 0, 0, 0);
        x.cue(2, 0, 0, 1);
        x.cue(2, 0, 0, 0);
        x.cue(4, 0, 0, 1);
        x.cue(8, 1, 0, 9);
        x.cue(9, 2, 0, 9);
        x.cue(10, 0, 0, 0);
        x.cue(12, 0, 0, 1);
        due("both seconds ahead", x.pass(2), 0);
        due("as the reel played: two", x.pass(1), 2);
        due("not those of the seconds ahead", x.pass(1), 0);
        due("there", x.pass(1), 0);
        due("none", x.pass(7), 0);
        due("as the reel played", x.pass(1), 1);
        due("none is left", x.pass(20), 0);
        x.begin();
        due("all together", x.pass(200), 3);
        x.begin();
        x.set(WIND, 1);
        x.takeOut(1);
        x.takeOut(1);
        x.move(1, 5);
        due("behind the sound 0 its end is the place of the sound 1", x.pass(6), 0);
        due("not there at 10: the place is 4", x.pass(5), 1);
        due("both kinds", x.count(5) * 10 + x.count(4), 10);
        due("then the reel is free and there", x.pass(9), 0);
    }

    // ---- 10 to 14

    private static void ofCue() {
        says("Promise 10: NO_SUCH if there is no such cue");
        for (int none : new int[] {-1, 8, FAR[0], FAR[1]}) {
            still("ofCue(" + none + ", 0)", Stages::middle, x -> x.ofCue(none, 0), NO_SUCH);
            still("ofCue(" + none + ", 5)", Stages::middle, x -> x.ofCue(none, 5), NO_SUCH);
        }
        still("the first one of none", Stages::empty, x -> x.ofCue(0, 0), NO_SUCH);
        still("the 24th", Stages::full, x -> x.ofCue(23, 0), 230);
        still("the 25th", Stages::full, x -> x.ofCue(24, 0), NO_SUCH);
        RadioCues x = Bounds.made(Stages::middle);
        x.takeOut(7);
        due("one that was taken out", x.ofCue(7, 0), NO_SUCH);
        says("Promise 10: BAD_VALUE if what is out of range");
        for (int bad : new int[] {-1, 5, FAR[0], FAR[1]}) {
            still("ofCue(0, " + bad + ")", Stages::middle, y -> y.ofCue(0, bad), BAD_VALUE);
        }
        says("Promise 10: 0 its second, 1 its kind, 2 its reel or channel, 3 its sound, loudness or goal, 4 what became of it");
        int[][] all = {{0, 0, 0, 0, 1}, {3, 2, 0, 99, 1}, {5, 0, 0, 1, 1}, {5, 0, 1, 0, 1}, {6, 1, 2, 80, 1}, {7, 0, 0, 0, 2},
            {8, 0, 3, 1, 3}, {9, 0, 0, 0, 0}, {60, 2, 3, 7, 0}};
        for (int cue = 0; cue < all.length; cue++) {
            for (int what = 0; what < 5; what++) {
                int[] told = {cue, what};
                still("ofCue(" + cue + ", " + what + ")", Stages::later, y -> y.ofCue(told[0], told[1]), all[cue][what]);
            }
        }
    }

    private static void ofReel() {
        says("Promise 11: NO_SUCH if there is no such reel");
        for (int none : new int[] {-1, 4, FAR[0], FAR[1]}) {
            still("ofReel(" + none + ", 0)", Stages::middle, x -> x.ofReel(none, 0), NO_SUCH);
            still("ofReel(" + none + ", 6)", Stages::middle, x -> x.ofReel(none, 6), NO_SUCH);
        }
        says("Promise 11: BAD_VALUE if what is out of range");
        for (int bad : new int[] {-1, 6, FAR[0], FAR[1]}) {
            still("ofReel(0, " + bad + ")", Stages::middle, x -> x.ofReel(0, bad), BAD_VALUE);
            still("ofReel(3, " + bad + ")", Stages::empty, x -> x.ofReel(3, bad), BAD_VALUE);
        }
        says("Promise 11: 0 the place, 1 the sound that it plays, 2 seconds that are left, 3 its sounds, 4 its tape, 5 the next cue");
        int[][] all = {{4, NONE, 0, 2, 8, 6}, {3, 0, 6, 1, 9, NONE}, {0, NONE, 0, 0, 0, NONE}, {0, NONE, 0, 0, 0, NONE}};
        for (int reel = 0; reel < 4; reel++) {
            for (int what = 0; what < 6; what++) {
                int[] told = {reel, what};
                still("ofReel(" + reel + ", " + what + ")", Stages::middle, x -> x.ofReel(told[0], told[1]), all[reel][what]);
            }
        }
        says("Promise 11: the rank of the next cue that calls a sound of it (NONE)");
        RadioCues x = fresh();
        x.sound(2, 3, 9);
        x.sound(1, 3, 9);
        x.cue(0, 1, 2, 9);
        x.cue(0, 2, 2, 9);
        due("a door and a goal call none", x.ofReel(2, 5), NONE);
        x.cue(0, 0, 1, 0);
        due("a sound of another one", x.ofReel(2, 5), NONE);
        x.cue(1, 0, 2, 0);
        x.cue(1, 0, 2, 0);
        due("the first one", x.ofReel(2, 5), 3);
        x.pass(1);
        due("of the second now, it is to come", x.ofReel(2, 5), 3);
        x.pass(1);
        due("they came", x.ofReel(2, 5), NONE);
        x.begin();
        due("they are to come", x.ofReel(2, 5), 3);
        x.takeOut(3);
        x.takeOut(3);
        due("they are out", x.ofReel(2, 5), NONE);
    }

    private static void ofSound() {
        says("Promise 12: NO_SUCH if there is no such reel or sound");
        for (int none : new int[] {-1, 4, FAR[0], FAR[1]}) {
            still("ofSound(" + none + ", 0, 0)", Stages::middle, x -> x.ofSound(none, 0, 0), NO_SUCH);
            still("ofSound(" + none + ", 0, 4)", Stages::middle, x -> x.ofSound(none, 0, 4), NO_SUCH);
        }
        for (int none : new int[] {-1, 2, 6, FAR[0], FAR[1]}) {
            still("ofSound(0, " + none + ", 0)", Stages::middle, x -> x.ofSound(0, none, 0), NO_SUCH);
            still("ofSound(0, " + none + ", 4)", Stages::middle, x -> x.ofSound(0, none, 4), NO_SUCH);
        }
        still("of an empty reel", Stages::middle, x -> x.ofSound(3, 0, 0), NO_SUCH);
        still("the last one", Stages::middle, x -> x.ofSound(0, 1, 0), 3);
        still("the sixth", Stages::full, x -> x.ofSound(0, 5, 0), 10);
        still("a seventh", Stages::full, x -> x.ofSound(0, 6, 0), NO_SUCH);
        says("Promise 12: BAD_VALUE if what is out of range");
        for (int bad : new int[] {-1, 4, FAR[0], FAR[1]}) {
            still("ofSound(0, 0, " + bad + ")", Stages::middle, x -> x.ofSound(0, 0, bad), BAD_VALUE);
        }
        says("Promise 12: 0 its seconds, 1 its loudness, 2 where it begins, 3 how often it was played");
        int[][] all = {{0, 0, 5, 60, 0, 1}, {0, 1, 3, 90, 5, 1}, {1, 0, 9, 50, 0, 1}};
        for (int[] one : all) {
            for (int what = 0; what < 4; what++) {
                int told = what;
                still("ofSound(" + one[0] + ", " + one[1] + ", " + what + ")", Stages::middle,
                    x -> x.ofSound(one[0], one[1], told), one[2 + what]);
            }
        }
        says("Promise 12: how often it was played from its beginning on, since the play began");
        RadioCues x = fresh();
        x.sound(0, 2, 9);
        x.cue(0, 0, 0, 0);
        x.cue(1, 0, 0, 0);
        x.cue(3, 0, 0, 0);
        int[] times = {0, 1, 1, 1, 2, 2};
        for (int second = 0; second < times.length; second++) {
            due("at second " + second, x.ofSound(0, 0, 3), times[second]);
            x.pass(1);
        }
        x.begin();
        due("since the play began", x.ofSound(0, 0, 3), 0);
        x.pass(1);
        due("as soon as it begins", x.ofSound(0, 0, 3), 1);
    }

    private static void played() {
        says("Promise 13: NO_SUCH if there are not so many");
        still("0 of none", Stages::written, x -> x.played(0, 0), NO_SUCH);
        for (int none : new int[] {-1, 3, 24, FAR[0], FAR[1]}) {
            still("played(" + none + ", 0)", Stages::middle, x -> x.played(none, 0), NO_SUCH);
            still("played(" + none + ", 3)", Stages::middle, x -> x.played(none, 3), NO_SUCH);
        }
        says("Promise 13: BAD_VALUE if what is out of range");
        for (int bad : new int[] {-1, 3, FAR[0], FAR[1]}) {
            still("played(0, " + bad + ")", Stages::middle, x -> x.played(0, bad), BAD_VALUE);
            still("played(2, " + bad + ")", Stages::middle, x -> x.played(2, bad), BAD_VALUE);
        }
        says("Promise 13: in the order in which each was for the first time");
        int[][] all = {{0, 0, 1}, {0, 1, 1}, {1, 0, 1}};
        for (int rank = 0; rank < 3; rank++) {
            for (int what = 0; what < 3; what++) {
                int[] told = {rank, what};
                still("played(" + rank + ", " + what + ")", Stages::middle, x -> x.played(told[0], told[1]), all[rank][what]);
            }
        }
        RadioCues x = fresh();
        for (int k = 0; k < 4; k++) {
            for (int n = 0; n < 6; n++) {
                x.sound(k, 1, 1);
            }
        }
        for (int n = 0; n < 6; n++) {
            for (int k = 3; k >= 0; k--) {
                x.cue(10 * (6 - n), 0, k, n);
            }
        }
        due("none", x.played(0, 0), NO_SUCH);
        x.pass(11);
        due("four", x.played(3, 0), 0);
        due("not five", x.played(4, 0), NO_SUCH);
        x.pass(50);
        for (int rank = 0; rank < 24; rank++) {
            due("the reel of " + rank, x.played(rank, 0), 3 - rank % 4);
            due("the number of " + rank, x.played(rank, 1), 5 - rank / 4);
            due("how often " + rank, x.played(rank, 2), 1);
        }
        due("24 is the most", x.played(24, 0), NO_SUCH);
        says("Promise 13: each once, however often it was played");
        x = fresh();
        x.sound(0, 1, 9);
        x.sound(1, 1, 9);
        int[][] calls = {{0, 0}, {2, 0}, {4, 1}, {6, 0}, {8, 1}};
        for (int[] call : calls) {
            x.cue(call[0], 0, call[1], 0);
        }
        int[] ofFirst = {1, 2, 2, 3, 3};
        int[] ofSecond = {NO_SUCH, NO_SUCH, 1, 1, 2};
        for (int n = 0; n < 5; n++) {
            x.pass(2);
            due("how often the first one", x.played(0, 2), ofFirst[n]);
            due("how often the second one", x.played(1, 2), ofSecond[n]);
            due("not three", x.played(2, 0), NO_SUCH);
        }
    }

    private static void ofChannel() {
        says("Promise 14: NO_SUCH if there is no such channel");
        for (int none : new int[] {-1, 4, FAR[0], FAR[1]}) {
            still("ofChannel(" + none + ", 0)", Stages::middle, x -> x.ofChannel(none, 0), NO_SUCH);
            still("ofChannel(" + none + ", 3)", Stages::middle, x -> x.ofChannel(none, 3), NO_SUCH);
        }
        says("Promise 14: BAD_VALUE if what is out of range");
        for (int bad : new int[] {-1, 3, FAR[0], FAR[1]}) {
            still("ofChannel(0, " + bad + ")", Stages::middle, x -> x.ofChannel(0, bad), BAD_VALUE);
            still("ofChannel(3, " + bad + ")", Stages::middle, x -> x.ofChannel(3, bad), BAD_VALUE);
        }
        says("Promise 14: 0 its level, 1 its goal, 2 doors that are heard on it yet, how many");
        int[][] all = {{99, 99, 0}, {50, 50, 0}, {50, 50, 1}, {50, 50, 0}};
        for (int channel = 0; channel < 4; channel++) {
            for (int what = 0; what < 3; what++) {
                int[] told = {channel, what};
                still("ofChannel(" + channel + ", " + what + ")", Stages::middle, x -> x.ofChannel(told[0], told[1]),
                    all[channel][what]);
            }
        }
        RadioCues x = Bounds.made(Stages::middle);
        x.pass(2);
        due("the door of second 6 in its last one but one", x.ofChannel(2, 2), 1);
        x.pass(1);
        due("it is not heard any more", x.ofChannel(2, 2), 0);
    }

    // ---- 15, 16

    private static void loud() {
        says("Promise 15: NO_SUCH if the second is below 0, or not over");
        still("-1", Stages::middle, x -> x.loud(-1), NO_SUCH);
        still("0", Stages::middle, x -> x.loud(0), 60);
        still("7, which is over", Stages::middle, x -> x.loud(7), 90 * 99 / 50 + 50 + 80);
        still("8, which is now", Stages::middle, x -> x.loud(8), NO_SUCH);
        still("none is over", Stages::written, x -> x.loud(0), NO_SUCH);
        still("999", Stages::late, x -> x.loud(999), 50);
        still("1199", Stages::late, x -> x.loud(1199), 0);
        still("1200", Stages::late, x -> x.loud(1200), NO_SUCH);
        for (int far : FAR) {
            still("" + far, Stages::late, x -> x.loud(far), NO_SUCH);
        }
    }

    private static void count() {
        says("Promise 16: BAD_VALUE if what is out of range");
        for (int bad : new int[] {-1, 15, FAR[0], FAR[1]}) {
            still("count(" + bad + ")", Stages::middle, x -> x.count(bad), BAD_VALUE);
        }
        says("Promise 16: 0 the second now .. 14 how many changes can be undone");
        int[] none = {0, 0, 0, 0, 0, 0, NONE, 0, 0, 4, 2, 10, 150, 0, 0};
        int[] later = {9, 9, 2, 5, 1, 1, 7, 3, 2, 4, 5, 10, 150, 11, 6};
        for (int what = 0; what < 15; what++) {
            int told = what;
            still("count(" + what + ") of a new object", Stages::empty, x -> x.count(told), none[what]);
            still("count(" + what + ")", Stages::later, x -> x.count(told), later[what]);
        }
        says("Promise 16: 13 the length of the pad, 0 to 80");
        RadioCues x = fresh();
        for (int n = 1; n <= 10; n++) {
            x.put(Bounds.packed("12345678"));
            due("length", x.count(13), 8 * n);
        }
        x.put('9');
        due("80 at most", x.count(13), 80);
        x.wipe();
        due("none", x.count(13), 0);
        says("Promise 16: 14 how many changes can be undone, 0 to 6");
        x = fresh();
        for (int n = 1; n <= 8; n++) {
            x.goal(0, n);
            due("changes " + n, x.count(14), Math.min(6, n));
        }
    }

    private static void countedSeconds() {
        says("Promise 16: 6 the loudest second that is over, of several the first one (NONE)");
        RadioCues x = fresh();
        x.set(SLAM, 1);
        x.cue(1, 1, 0, 8);
        x.cue(2, 1, 0, 9);
        x.cue(3, 1, 0, 9);
        x.cue(4, 1, 0, 8);
        x.cue(5, 1, 0, 10);
        int[] loudest = {NONE, 0, 1, 2, 2, 2, 5, 5};
        for (int now = 0; now < loudest.length; now++) {
            due("at second " + now, x.count(6), loudest[now]);
            x.pass(1);
        }
        x = Bounds.made(Stages::late);
        due("at second 1200", x.count(6), 999);
        says("Promise 16: 7 seconds that were too loud, by LOUD as it is now");
        x = fresh();
        x.set(SLAM, 1);
        for (int n = 0; n < 5; n++) {
            x.cue(n, 1, 0, 10 + n);
        }
        x.pass(9);
        for (int loud = 10; loud <= 15; loud++) {
            x.set(LOUD, loud);
            due("LOUD " + loud, x.count(7), Math.max(0, 14 - loud));
        }
        x.set(LOUD, 10);
        due("back to 10", x.count(7), 4);
        due("the second now", x.count(0), 9);
    }

    // ---- 17

    private static void rest() {
        says("Promise 17: BAD_VALUE if what is out of range");
        for (int bad : new int[] {-1, 5, FAR[0], FAR[1]}) {
            still("rest(" + bad + ")", Stages::middle, x -> x.rest(bad), BAD_VALUE);
            still("rest(" + bad + ") with no rest", Stages::empty, x -> x.rest(bad), BAD_VALUE);
        }
        says("Promise 17: 0 the seconds until then, 1 missed, 2 the loudest second, 3 how loud, 4 too loud; nothing changes");
        int[] middle = {53, 0, 9, 118 + 50 + 80, 5};
        int[] nothing = {0, 0, NONE, 0, 0};
        for (int what = 0; what < 5; what++) {
            int told = what;
            still("rest(" + what + ")", Stages::middle, x -> x.rest(told), middle[what]);
            still("rest(" + what + ") with no rest", Stages::late, x -> x.rest(told), nothing[what]);
        }
        says("Promise 17: until no cue is to come");
        for (int second : new int[] {0, 1, 998, 999}) {
            RadioCues x = fresh();
            x.cue(second, 2, 0, 50);
            due("a goal at " + second, x.rest(0), second + 1);
            due("it is silent: the first second", x.rest(2), 0);
            due("it is silent", x.rest(3), 0);
        }
        says("Promise 17: until no reel plays");
        for (int seconds : new int[] {1, 2, 60}) {
            RadioCues x = fresh();
            x.sound(3, seconds, 9);
            x.cue(2, 0, 3, 0);
            due("a sound of " + seconds, x.rest(0), 2 + seconds);
            x.pass(3);
            due("a sound of " + seconds + " that plays", x.rest(0), seconds - 1);
            due("its loudest second", x.rest(2), seconds > 1 ? 3 : NONE);
        }
        says("Promise 17: until no door is heard");
        for (int slam : new int[] {1, 2, 9}) {
            RadioCues x = fresh();
            x.set(SLAM, slam);
            x.cue(2, 1, 3, 9);
            due("SLAM " + slam, x.rest(0), 2 + slam);
            x.pass(3);
            due("SLAM " + slam + ", a door that is heard", x.rest(0), slam - 1);
            due("SLAM " + slam + ", its loudest second", x.rest(2), slam > 1 ? 3 : NONE);
        }
        says("What if: the bound of seconds does not matter");
        RadioCues x = fresh();
        x.sound(0, 60, 9);
        x.cue(999, 0, 0, 0);
        due("from 0", x.rest(0), 1059);
        Bounds.pass(x, 999);
        due("from 999", x.rest(0), 60);
        due("becomes", x.becomes(0), 1);
        due("leastWind", x.leastWind(), 1);
        // Only the winding that readyIn() tells of can last beyond the bound.
        x = fresh();
        x.set(WIND, 1);
        for (int n = 0; n < 6; n++) {
            x.sound(1, 60, 9);
        }
        Bounds.pass(x, 899);
        for (int now = 899; now < 902; now++) {
            due("readyIn, from " + now, x.readyIn(1, 5), 300);
            x.pass(1);
        }
        Bounds.pass(x, 298);
        due("now", x.count(0), 1200);
        due("readyIn, from 1200", x.readyIn(1, 5), 300);
        due("readyIn, from 1200", x.readyIn(1, 1), 60);
        due("rest, from 1200", x.rest(0), 0);
        due("leastWind, from 1200", x.leastWind(), 1);
    }

    private static void restSeconds() {
        says("Promise 17: 1 cues that would be missed in it");
        RadioCues x = fresh();
        x.sound(0, 3, 9);
        x.cue(0, 0, 0, 0);
        x.cue(1, 0, 0, 0);
        x.cue(2, 0, 0, 0);
        x.cue(9, 0, 0, 0);
        int[] missed = {2, 2, 1, 0, 0};
        for (int now = 0; now < missed.length; now++) {
            due("from " + now, x.rest(1), missed[now]);
            x.pass(1);
        }
        says("Promise 17: 2 the loudest second of it, told as for loud(), of several the first one; 3 how loud that is");
        x = fresh();
        x.set(SLAM, 1);
        int[] doors = {5, 9, 3, 9, 7, 7, 2};
        for (int n = 0; n < doors.length; n++) {
            x.cue(n + 1, 1, 0, doors[n]);
        }
        int[] loudest = {2, 2, 2, 4, 4, 5, 6, 7};
        for (int now = 0; now < loudest.length; now++) {
            due("the second, from " + now, x.rest(2), loudest[now]);
            due("how loud, from " + now, x.rest(3), doors[loudest[now] - 1]);
            x.pass(1);
        }
        due("none is left", x.rest(2), NONE);
        due("none is left", x.rest(3), 0);
        due("what was heard ahead does not count", x.count(6), 2);
        says("Promise 17: 4 seconds of it that would be too loud");
        x = fresh();
        x.set(LOUD, 10);
        x.set(SLAM, 1);
        for (int n = 0; n < 5; n++) {
            x.cue(n, 1, 0, 9 + n);
        }
        int[] tooLoud = {3, 3, 3, 2, 1, 0};
        for (int now = 0; now < tooLoud.length; now++) {
            due("from " + now, x.rest(4), tooLoud[now]);
            x.pass(1);
        }
    }

    // ---- 18 to 21

    private static void becomes() {
        says("Promise 18: NO_SUCH if there is no such cue");
        for (int none : new int[] {-1, 8, FAR[0], FAR[1]}) {
            still("becomes(" + none + ")", Stages::middle, x -> x.becomes(none), NO_SUCH);
        }
        still("0 of none", Stages::empty, x -> x.becomes(0), NO_SUCH);
        still("24 of 24", Stages::full, x -> x.becomes(24), NO_SUCH);
        says("Promise 18: returns 1 to 3 (what became of it, if it came)");
        int[] written = {1, 1, 1, 1, 1, 2, 1};
        for (int cue = 0; cue < written.length; cue++) {
            int told = cue;
            still("becomes(" + cue + ")", Stages::written, x -> x.becomes(told), written[cue]);
        }
        int[] later = {1, 1, 1, 1, 1, 2, 3, 1, 1};
        for (int cue = 0; cue < later.length; cue++) {
            int told = cue;
            still("becomes(" + cue + ") of some that came", Stages::later, x -> x.becomes(told), later[cue]);
        }
        RadioCues x = fresh();
        x.sound(0, 4, 9);
        x.sound(0, 4, 9);
        x.cue(0, 0, 0, 1);
        x.cue(1, 0, 0, 1);
        x.cue(999, 0, 0, 0);
        due("not there", x.becomes(0), 3);
        due("there", x.becomes(1), 1);
        due("the last second", x.becomes(2), 1);
        x.move(1, 0);
        due("neither is there", x.becomes(1), 3);
        x.move(2, 3);
        due("as the other one is missed, it plays", x.becomes(2), 1);
        x.move(0, 1);
        due("as the other one plays, it is missed", x.becomes(2), 2);
    }

    private static void leastWind() {
        says("Promise 19: the least WIND, 1 to 20, with which no cue would be missed in the rest of the play; NONE if none does");
        for (int way = 1; way <= 60; way++) {
            for (int seconds : new int[] {1, 2, 3, 4, 19, 20, 21}) {
                RadioCues x = fresh();
                x.set(WIND, 1 + way % 20);
                x.sound(0, way, 9);
                x.sound(0, 1, 9);
                x.cue(seconds, 0, 0, 1);
                int least = (way + seconds - 1) / seconds;
                due("a way of " + way + " in " + seconds, x.leastWind(), least > 20 ? NONE : least);
            }
        }
        still("no cue is to come", Stages::late, RadioCues::leastWind, 1);
        still("no cue", Stages::empty, RadioCues::leastWind, 1);
        still("the way of 8 in the second 7 and the second 8", Stages::middle, RadioCues::leastWind, 4);
        still("one is missed, however it winds", Stages::written, RadioCues::leastWind, NONE);
        RadioCues x = fresh();
        x.cue(5, 1, 0, 9);
        x.cue(5, 2, 0, 9);
        due("doors and goals are not missed", x.leastWind(), 1);
        x.sound(0, 40, 9);
        x.sound(0, 3, 9);
        x.cue(0, 0, 0, 1);
        due("in no second", x.leastWind(), NONE);
        x.pass(1);
        due("what is missed already is no rest of the play", x.leastWind(), 1);
        x = fresh();
        x.sound(0, 3, 9);
        x.sound(0, 38, 9);
        x.sound(0, 2, 9);
        x.cue(0, 0, 0, 0);
        x.cue(4, 0, 0, 2);
        due("two seconds, with the one in which a sound ends", x.leastWind(), 19);
        x.pass(3);
        due("it wound with 4 already", x.leastWind(), NONE);
        x.undo();
        x.set(WIND, 18);
        x.pass(3);
        due("it wound with 18 already", x.leastWind(), 20);
        due("nothing changes", x.count(9), 18);
        x.cue(30, 0, 0, 0);
        due("the greatest of two needs", x.leastWind(), 20);
        x.takeOut(1);
        due("the other need: 21 back in 27 seconds", x.leastWind(), 1);
    }

    private static void ifMoved() {
        says("Promise 20: errors as for move()");
        still("0 of none", Stages::empty, x -> x.ifMoved(0, 5), NO_SUCH);
        for (int none : new int[] {-1, 8, FAR[0], FAR[1]}) {
            still("the cue " + none, Stages::middle, x -> x.ifMoved(none, 50), NO_SUCH);
            still("the cue " + none + ", ahead of the second", Stages::middle, x -> x.ifMoved(none, 1000), NO_SUCH);
            still("the cue " + none + ", ahead of the one now", Stages::middle, x -> x.ifMoved(none, 7), NO_SUCH);
        }
        for (int bad : new int[] {-1, 1000, FAR[0], FAR[1]}) {
            still("to " + bad, Stages::middle, x -> x.ifMoved(6, bad), BAD_VALUE);
            still("one that came to " + bad, Stages::middle, x -> x.ifMoved(0, bad), BAD_VALUE);
        }
        for (int cue = 0; cue <= 5; cue++) {
            int came = cue;
            still("the cue " + cue + ", which came", Stages::middle, x -> x.ifMoved(came, 500), NOT_POSSIBLE);
        }
        still("to the second ahead of now", Stages::middle, x -> x.ifMoved(6, 7), NOT_POSSIBLE);
        still("the last one to the second ahead of now", Stages::middle, x -> x.ifMoved(7, 7), NOT_POSSIBLE);
        says("Promise 20: how many cues would be missed in the rest of the play if a cue was moved");
        still("to the second now: it is not there", Stages::middle, x -> x.ifMoved(6, 8), 1);
        still("one second later: it is there", Stages::middle, x -> x.ifMoved(6, 9), 0);
        still("to 999", Stages::middle, x -> x.ifMoved(6, 999), 0);
        still("to 0", Stages::written, x -> x.ifMoved(6, 0), 2);
        still("a goal", Stages::middle, x -> x.ifMoved(7, 8), 0);
        RadioCues x = fresh();
        x.sound(0, 4, 9);
        x.cue(0, 0, 0, 0);
        x.cue(2, 0, 0, 0);
        x.cue(5, 0, 0, 0);
        int[] missed = {1, 1, 1, 1, 1, 1, 1, 1, 1, 0, 0};
        for (int second = 0; second < missed.length; second++) {
            due("the middle one to " + second, x.ifMoved(1, second), missed[second]);
            due("as move() and rest() tell it", movedRest(second), x.ifMoved(1, second));
        }
        due("the last one to the second 0", x.ifMoved(2, 0), 2);
        x.takeOut(0);
        due("to the rank 0, then the other one is missed", x.ifMoved(1, 0) + x.ifMoved(0, 0), 1);
        x.undo();
        due("the first one behind the second one", x.ifMoved(0, 2), 2);
        due("the first one behind all", x.ifMoved(0, 20), 1);
        due("two in the second 5", x.ifMoved(1, 5), 1);
    }

    private static int movedRest(int second) {
        RadioCues x = fresh();
        x.sound(0, 4, 9);
        x.cue(0, 0, 0, 0);
        x.cue(2, 0, 0, 0);
        x.cue(5, 0, 0, 0);
        x.move(1, second);
        return x.rest(1);
    }

    private static void readyIn() {
        says("Promise 21: NO_SUCH if there is no such reel or sound");
        for (int none : new int[] {-1, 4, FAR[0], FAR[1]}) {
            still("the reel " + none, Stages::middle, x -> x.readyIn(none, 0), NO_SUCH);
        }
        for (int none : new int[] {-1, 2, 6, FAR[0], FAR[1]}) {
            still("the sound " + none + " of two", Stages::middle, x -> x.readyIn(0, none), NO_SUCH);
        }
        still("of an empty reel", Stages::middle, x -> x.readyIn(3, 0), NO_SUCH);
        still("the sixth", Stages::full, x -> x.readyIn(0, 5), 9);
        still("a seventh", Stages::full, x -> x.readyIn(0, 6), NO_SUCH);
        says("Promise 21: in how many seconds, at the earliest (0: in the second now)");
        still("from 4 to 0", Stages::middle, x -> x.readyIn(0, 0), 1);
        still("from 4 to 5", Stages::middle, x -> x.readyIn(0, 1), 1);
        still("6 seconds left, from 9 to 0", Stages::middle, x -> x.readyIn(1, 0), 8);
        for (int wind = 1; wind <= 20; wind++) {
            for (int way : new int[] {1, 2, 7, 19, 20, 21, 40, 59, 60}) {
                RadioCues x = fresh();
                x.set(WIND, wind);
                x.sound(2, way, 9);
                x.sound(2, 1, 9);
                int winds = (way + wind - 1) / wind;
                due("a way of 0", x.readyIn(2, 0), 0);
                due("WIND " + wind + ", a way of " + way, x.readyIn(2, 1), winds);
                x.cue(winds, 0, 2, 1);
                due("in that second it plays", x.becomes(0), 1);
                x.move(0, winds - 1);
                due("in the second ahead it does not", x.becomes(0), 3);
            }
        }
        says("Promise 21: if it plays on what it plays, and winds there alone (in the second, too, in which what it plays ends)");
        RadioCues x = fresh();
        x.sound(0, 5, 9);
        x.sound(0, 4, 9);
        x.sound(0, 1, 9);
        x.cue(0, 0, 0, 0);
        x.cue(1, 0, 0, 0);
        int[] playing = {5, 4, 3, 2, 1};
        for (int now = 0; now < 5; now++) {
            if (now > 0) {
                due("behind its end at once, from " + now, x.readyIn(0, 1), playing[now]);
                due("4 behind it: as soon, from " + now, x.readyIn(0, 2), playing[now]);
                due("5 ahead of it: one later, from " + now, x.readyIn(0, 0), playing[now] + 1);
            }
            x.pass(1);
        }
        due("at its end", x.readyIn(0, 1), 0);
        due("at its end", x.readyIn(0, 2), 1);
        due("at its end", x.readyIn(0, 0), 2);
        says("Promise 21: cues do not matter");
        x.cue(5, 0, 0, 1);
        x.cue(9, 0, 0, 2);
        due("one of the second now is to come", x.readyIn(0, 1), 0);
        due("and does not play yet", x.readyIn(0, 0), 2);
    }

    // ---- 22 to 25

    private static void put() {
        says("Promise 22: characters: 1 to 8 characters");
        long packed = 0;
        RadioCues x = fresh();
        for (int length = 1; length <= 8; length++) {
            packed = packed << 8 | '0' + length;
            x.wipe();
            due(length + " characters", x.put(packed), length);
        }
        says("Promise 22: its lowest 8 bits are the last character, the next 8 bits the one before, and so on");
        x = fresh();
        x.put(0x67L);
        x.put(0x31L << 8 | 0x32L);
        due("g12", x.carryOut(), 1);
        due("12 seconds", x.count(0), 12);
        x.put(Bounds.packed("g1;g2;g3"));
        x.put(Bounds.packed("0"));
        due("g1;g2;g30", x.carryOut(), 3);
        due("33 seconds more", x.count(0), 45);
        says("Promise 22: BAD_VALUE if there is no character");
        still("0", Stages::middle, y -> y.put(0), BAD_VALUE);
        says("Promise 22: BAD_VALUE if a code is not 33 to 126");
        for (int at = 0; at < 8; at++) {
            for (int code : new int[] {1, 32, 33, 126, 127, 128, 255}) {
                long characters = Bounds.packed("AAAAAAAA") & ~(0xFFL << 8 * at) | (long) code << 8 * at;
                due("the code " + code + " with " + at + " behind it", fresh().put(characters),
                    code == 33 || code == 126 ? 8 : BAD_VALUE);
                due("it is the first one", fresh().put((long) code << 8 * at | (1L << 8 * at) - 1 & Bounds.packed("AAAAAAAA")),
                    code == 33 || code == 126 ? at + 1 : BAD_VALUE);
            }
        }
        for (int code = 0; code < 256; code++) {
            due("the code " + code, fresh().put(code), code >= 33 && code <= 126 ? 1 : BAD_VALUE);
        }
        still("32", Stages::middle, y -> y.put(32), BAD_VALUE);
        still("127", Stages::middle, y -> y.put(127), BAD_VALUE);
        still("a code of eight is not", Stages::middle, y -> y.put(0x4141414120414141L), BAD_VALUE);
        says("Promise 22: BAD_VALUE if a bit above 8 bits that are 0 is not 0");
        for (int length = 0; length < 7; length++) {
            long ahead = Bounds.packed("AAAAAAA") & (1L << 8 * length) - 1;
            for (int bit = 8 * length + 8; bit < 64; bit++) {
                due(length + " characters and the bit " + bit, fresh().put(ahead | 1L << bit), BAD_VALUE);
            }
            due(length + " characters, 8 bits of 0 and a character", fresh().put(ahead | 65L << 8 * length + 8), BAD_VALUE);
        }
        still("the highest bit", Stages::middle, y -> y.put(1L << 63 | 'g'), BAD_VALUE);
        still("all bits", Stages::middle, y -> y.put(-1), BAD_VALUE);
        says("Promise 22: TOO_MANY if the pad would be longer than 80");
        for (int length = 72; length <= 80; length++) {
            String text = "g1;g10;".repeat(12).substring(0, length);
            Consumer<RadioCues> setup = y -> Bounds.type(y, text);
            int free = 80 - length;
            if (free > 0) {
                due(free + " behind " + length, Bounds.made(setup).put(Bounds.packed("AAAAAAAA".substring(0, free))), 80);
            }
            if (free < 8) {
                still((free + 1) + " behind " + length, setup, y -> y.put(Bounds.packed("AAAAAAAA".substring(7 - free))), TOO_MANY);
                still("8 behind " + length, setup, y -> y.put(Bounds.packed("AAAAAAAA")), TOO_MANY);
                still("BAD_VALUE is ahead of it", setup, y -> y.put(Bounds.packed("AAAAAAA ")), BAD_VALUE);
            }
            still("none behind " + length, setup, y -> y.put(0), BAD_VALUE);
        }
    }

    private static void wipe() {
        says("Promise 23: empties the pad, and returns the length that it had");
        due("an empty one", fresh().wipe(), 0);
        for (int length : new int[] {1, 2, 79, 80}) {
            RadioCues x = fresh();
            Bounds.type(x, "+".repeat(length));
            due("it", x.wipe(), length);
            due("its length", x.count(13), 0);
            due("once more", x.wipe(), 0);
            due("its place is free", x.put('+'), 1);
        }
        says("Promise 23: nothing else is different");
        Consumer<RadioCues> wiped = x -> {
            Stages.later(x);
            x.wipe();
        };
        Consumer<RadioCues> neverWritten = x -> {
            Stages.written(x);
            x.save(0);
            x.set(SLAM, 5);
            x.pass(8);
            x.cue(60, 2, 3, 7);
            x.save(1);
            x.sound(3, 9, 30);
            x.sound(3, 4, 40);
            x.cue(8, 0, 3, 1);
            x.pass(1);
            x.goal(2, 100);
        };
        Bounds.same("wipe(), then everything", wiped, neverWritten, true);
    }

    private static void fault() {
        says("Promise 24: returns the fault of the pad, NONE if there is none");
        still("none", Stages::middle, RadioCues::fault, NONE);
        still("an empty one", Stages::empty, RadioCues::fault, 0);
        still("at its first character", x -> x.put('x'), RadioCues::fault, 0);
        still("at its end", x -> x.put('g'), RadioCues::fault, 1);
        still("80 good ones", x -> Bounds.type(x, "g1;".repeat(25) + "g9999".substring(0, 4) + "!"), RadioCues::fault, 79);
        still("80 good ones", x -> Bounds.type(x, "g1;".repeat(25) + "g1;g1"), RadioCues::fault, NONE);
        still("80 good ones, and it ends too early", x -> Bounds.type(x, "g1;".repeat(26) + "s1"), RadioCues::fault, 80);
    }

    private static void carryOutErrors() {
        says("Promise 25: BAD_TEXT if the pad has a fault (then it stays)");
        for (String text : new String[] {"", "x", "g", "g1;", "g1;x", "g01", "g1000", "g1;g1;g1;g1;g1;s5:0", "r0+5*10*"}) {
            still("\"" + text + "\"", x -> Bounds.type(x, text), RadioCues::carryOut, BAD_TEXT);
            still("\"" + text + "\" in the middle", x -> {
                Stages.middle(x);
                x.wipe();
                Bounds.type(x, text);
            }, RadioCues::carryOut, BAD_TEXT);
        }
        RadioCues x = fresh();
        Bounds.type(x, "g3;");
        due("a fault", x.carryOut(), BAD_TEXT);
        Bounds.type(x, "g4");
        due("it stayed, and is mended", x.carryOut(), 2);
        due("its seconds", x.count(0), 7);
        says("Promise 25: up to the first one that returns an error");
        String[] refused = {"r4+1*1", "r9+1*1", "r0+0*1", "r0+61*1", "r0+1*0", "r0+1*100", "s999:40", "s999:09", "s7:00", "d999:4*1",
            "d999:0*0", "d999:0*100", "d7:0*1", "l999:4=1", "l999:0=101", "l7:0=1", "g0", "g201", "g999"};
        for (String order : refused) {
            for (int ahead = 0; ahead <= 2; ahead++) {
                int orders = ahead;
                Consumer<RadioCues> middle = y -> {
                    Stages.middle(y);
                    y.wipe();
                };
                Consumer<RadioCues> setup = middle.andThen(y -> Bounds.type(y, "l99:1=2;".repeat(orders) + order + ";g5;l98:1=3"));
                due(ahead + " ahead of " + order, Bounds.made(setup).carryOut(), ahead);
                Bounds.same(ahead + " ahead of " + order + ", then the state", setup.andThen(RadioCues::carryOut), middle.andThen(y -> {
                    for (int n = 0; n < orders; n++) {
                        y.cue(99, 2, 1, 2);
                    }
                }), false);
            }
        }
        says("Promise 25: the first error by TOO_MANY and by the bound of seconds");
        x = fresh();
        due("a seventh sound", Bounds.carriedOut(x, "r0+1*1;r0+1*1;r0+1*1;r0+1*1;r0+1*1;r0+1*1;r0+1*1;g1"), 6);
        due("six", x.ofReel(0, 3), 6);
        due("no second", x.count(0), 0);
        x = Bounds.made(Stages::full);
        due("a 25th cue", Bounds.carriedOut(x, "g1;d999:0*1;g1"), 1);
        due("24", x.count(1), 24);
        x = fresh();
        due("to 1200", Bounds.carriedOut(x, "g200;g200;g200;g200;g200;g199;g1;g1;g1"), 7);
        due("1200", x.count(0), 1200);
    }

    private static void carryOut() {
        says("Promise 25: carries the orders out, one after the other; returns how many");
        RadioCues x = fresh();
        due("one", Bounds.carriedOut(x, "g1"), 1);
        due("two", Bounds.carriedOut(x, "g1;g1"), 2);
        due("27, the most", Bounds.carriedOut(x, "g1;".repeat(26) + "g1"), 27);
        due("the seconds", x.count(0), 30);
        x = fresh();
        due("a sound, its cue, its second", Bounds.carriedOut(x, "r3+2*9;s0:30;g1"), 3);
        due("it plays", x.ofReel(3, 1), 0);
        due("the other way round", Bounds.carriedOut(fresh(), "s0:30;r3+2*9"), 0);
        says("Promise 25: and empties the pad");
        for (String text : new String[] {"g1", "g0", "g1;g0;g1", "g1;".repeat(26) + "g1"}) {
            x = fresh();
            Bounds.carriedOut(x, text);
            due("its length", x.count(13), 0);
            due("its fault", x.fault(), 0);
            due("once more", x.carryOut(), BAD_TEXT);
        }
        says("Promise 25: this is a change (one, with all of them; also if none is carried out)");
        for (String text : new String[] {"g0", "g1", "g1;g0", "r0+1*1;s5:00;d5:0*9;l5:0=9;g3;g3;g3;g3"}) {
            x = Bounds.made(Stages::written);
            int before = x.count(14);
            int done = Bounds.carriedOut(x, text);
            due(text, done, text.equals("g0") ? 0 : text.length() < 6 ? 1 : 8);
            due(text + ": one more", x.count(14), before + 1);
            Bounds.same(text + ": undone", y -> {
                Stages.written(y);
                Bounds.carriedOut(y, text);
                y.undo();
            }, Stages::written, true);
        }
        says("Promise 26: an order of a text records nothing by itself");
        x = fresh();
        for (int n = 1; n <= 5; n++) {
            x.goal(0, n);
        }
        Bounds.carriedOut(x, "g1;g1;g1;g1;g1;g1;g1;g1");
        due("six", x.count(14), 6);
        due("the text alone", x.undo(), 5);
        due("no second passed", x.count(0), 0);
        due("the changes ahead stay", x.ofChannel(0, 1), 5);
        for (int n = 0; n < 5; n++) {
            x.undo();
        }
        due("all of them", x.ofChannel(0, 1), 50);
    }

    // ---- 26

    private static void undo() {
        says("Promise 26: NOT_POSSIBLE if there is none");
        still("of a new object", Stages::empty, RadioCues::undo, NOT_POSSIBLE);
        still("all are undone", x -> {
            x.goal(0, 9);
            x.undo();
        }, RadioCues::undo, NOT_POSSIBLE);
        says("Promise 26: a history of at most 6 states; when one more is recorded, the oldest one is dropped");
        for (int changes = 0; changes <= 15; changes++) {
            RadioCues x = fresh();
            for (int n = 1; n <= changes; n++) {
                x.goal(0, n);
            }
            int kept = Math.min(6, changes);
            due("changes that can be undone", x.count(14), kept);
            for (int n = 1; n <= kept; n++) {
                due("of " + changes + " changes: returns how many then", x.undo(), kept - n);
                due("as many as that", x.count(14), kept - n);
                due("of " + changes + " changes: the goal", x.ofChannel(0, 1), changes == n ? 50 : changes - n);
            }
            due("no more", x.undo(), NOT_POSSIBLE);
            due("the goal", x.ofChannel(0, 1), changes <= 6 ? 50 : changes - 6);
        }
        says("Promise 26: everything except the pad, the slots and the history");
        RadioCues x = fresh();
        x.goal(0, 1);
        Bounds.type(x, "g7");
        x.save(1);
        x.goal(0, 2);
        due("undone", x.undo(), 1);
        due("undone", x.undo(), 0);
        due("the pad stays", x.count(13), 2);
        due("the pad stays", x.fault(), NONE);
        due("the slot stays", x.restore(1), 0);
        due("what was saved", x.ofChannel(0, 1), 1);
        x = fresh();
        Bounds.type(x, "g7");
        x.carryOut();
        due("the text", x.undo(), 0);
        due("the pad stays empty", x.count(13), 0);
        says("Promise 26: changes behind an undone one");
        x = fresh();
        for (int n = 1; n <= 9; n++) {
            x.goal(0, n);
        }
        x.undo();
        x.undo();
        for (int n = 17; n <= 19; n++) {
            x.goal(0, n);
        }
        due("six", x.count(14), 6);
        int[] goals = {18, 17, 7, 6, 5, 4};
        for (int goal : goals) {
            x.undo();
            due("the goal", x.ofChannel(0, 1), goal);
        }
        due("none is left", x.count(14), 0);
        says("Promise 26: the first state that is recorded, behind others that were undone");
        due("a change", x.goal(0, 80), 4);
        due("undone", x.undo(), 0);
        due("the goal", x.ofChannel(0, 1), 4);
        due("another change", x.goal(0, 90), 4);
        due("undone", x.undo(), 0);
        due("the goal", x.ofChannel(0, 1), 4);
        due("none is left", x.undo(), NOT_POSSIBLE);
        x = fresh();
        for (int n = 1; n <= 3; n++) {
            x.goal(1, n);
            due("the only change", x.undo(), 0);
            due("as a new object", x.ofChannel(1, 1), 50);
        }
    }

    private static void eachIsAChange() {
        says("Promise 26: each method that is a change, and returns no error, records the state before it");
        Consumer<RadioCues> middle = Stages::middle;
        undoable("set", middle, x -> x.set(WIND, 9), 4);
        undoable("sound", middle, x -> x.sound(1, 60, 99), 1);
        undoable("cue", middle, x -> x.cue(8, 1, 0, 9), 6);
        undoable("takeOut", middle, x -> x.takeOut(6), 7);
        undoable("move", middle, x -> x.move(6, 999), 7);
        undoable("goal", middle, x -> x.goal(1, 0), 50);
        undoable("begin", middle, RadioCues::begin, 8);
        undoable("pass", middle, x -> x.pass(99), 0);
        undoable("restore", middle, x -> x.restore(0), 7);
        says("Promise 26: also if nothing is different then");
        undoable("set", middle, x -> x.set(LOUD, 150), 150);
        undoable("move", middle, x -> x.move(6, 9), 6);
        undoable("goal", middle, x -> x.goal(0, 99), 99);
        undoable("begin", Stages::written, RadioCues::begin, 0);
        undoable("restore", x -> x.save(1), x -> x.restore(1), 0);
        says("Promise 26: each of them drops the oldest state of a full history");
        for (int which = 0; which < 10; which++) {
            RadioCues x = fresh();
            x.save(0);
            x.cue(500, 1, 0, 9);
            for (int n = 1; n <= 6; n++) {
                x.goal(0, n);
            }
            due("change " + which, aChange(x, which) >= 0 ? 1 : 0, 1);
            due("change " + which + ": six", x.count(14), 6);
            due("change " + which + ": undone", x.undo(), 5);
            due("change " + which + ": the goal", x.ofChannel(0, 1), 6);
            for (int n = 0; n < 5; n++) {
                x.undo();
            }
            due("change " + which + ": the oldest one left", x.ofChannel(0, 1), 1);
            due("change " + which + ": no more", x.undo(), NOT_POSSIBLE);
        }
    }

    private static int aChange(RadioCues x, int which) {
        switch (which) {
            case 0: return x.set(WIND, 1);
            case 1: return x.sound(0, 1, 1);
            case 2: return x.cue(0, 1, 0, 1);
            case 3: return x.takeOut(0);
            case 4: return x.move(0, 9);
            case 5: return x.goal(0, 77);
            case 6: return x.begin();
            case 7: return x.pass(1);
            case 8: return Bounds.carriedOut(x, "g0;g1");
            default: return x.restore(0);
        }
    }

    private static void sixChanges() {
        says("Promise 26: undoes the latest change: everything is as it was before it, change by change");
        for (int first = 0; first <= 6; first++) {
            for (int undone = 1; undone <= 6; undone++) {
                int from = first;
                int left = 6 - undone;
                int times = undone;
                Bounds.same("changes " + first + " to " + (first + 5) + ", " + undone + " undone", x -> {
                    sixFrom(x, from, 6);
                    for (int n = 0; n < times; n++) {
                        x.undo();
                    }
                }, x -> sixFrom(x, from, left), false);
            }
        }
    }

    /** Some of six changes behind a stage, the first ones. */
    private static void sixFrom(RadioCues x, int first, int changes) {
        Stages.middle(x);
        x.wipe();
        for (int n = first; n < first + changes; n++) {
            due("the change " + n + " is one", oneOfTwelve(x, n) >= 0 ? 1 : 0, 1);
        }
    }

    private static int oneOfTwelve(RadioCues x, int which) {
        switch (which) {
            case 0: return x.set(LOUD, 40);
            case 1: return x.sound(0, 1, 1);
            case 2: return x.takeOut(6);
            case 3: return x.goal(1, 9);
            case 4: return x.pass(2);
            case 5: x.save(1); return x.begin();
            case 6: return x.cue(30, 1, 3, 7);
            case 7: return x.move(x.count(1) - 1, 31);
            case 8: return Bounds.carriedOut(x, "d31:2*8;g2");
            case 9: return x.restore(0);
            case 10: return x.pass(11);
            default: return x.set(SLAM, 9);
        }
    }

    private static void noneIsAChange() {
        says("Promise 26: what is no change records nothing: nothing can be undone");
        RadioCues x = fresh();
        x.ofCue(0, 0);
        x.ofReel(0, 0);
        x.ofSound(0, 0, 0);
        x.played(0, 0);
        x.ofChannel(0, 0);
        x.loud(0);
        x.count(0);
        x.rest(0);
        x.becomes(0);
        x.leastWind();
        x.ifMoved(0, 0);
        x.readyIn(0, 0);
        x.put('g');
        x.fault();
        x.wipe();
        x.carryOut();
        x.save(0);
        x.save(1);
        due("count(14)", x.count(14), 0);
        due("undo()", x.undo(), NOT_POSSIBLE);
        says("What if: nothing changes");
        Consumer<RadioCues> later = Stages::later;
        still("rest", later, y -> y.rest(0), 52);
        still("becomes", later, y -> y.becomes(7), 1);
        still("leastWind", later, RadioCues::leastWind, 1);
        still("ifMoved", later, y -> y.ifMoved(7, 500), 0);
        still("readyIn", later, y -> y.readyIn(3, 1), 3);
        says("What there is: nothing changes");
        still("count", later, y -> y.count(6), 7);
        still("loud", later, y -> y.loud(8), 50 + 80);
    }

    // ---- 27, 28

    private static void save() {
        says("Promise 27: BAD_VALUE if there is no such slot");
        for (int none : new int[] {-1, 2, FAR[0], FAR[1]}) {
            still("save(" + none + ")", Stages::middle, x -> x.save(none), BAD_VALUE);
        }
        says("Promise 27: returns how many cues there are");
        for (int slot = 0; slot < 2; slot++) {
            due("none", fresh().save(slot), 0);
            due("eight", Bounds.made(Stages::middle).save(slot), 8);
            due("24", Bounds.made(Stages::full).save(slot), 24);
        }
        says("Promise 27: and overwrites what was saved there");
        RadioCues x = fresh();
        x.goal(0, 1);
        x.save(0);
        x.goal(0, 2);
        x.save(1);
        x.goal(0, 3);
        x.save(0);
        x.goal(0, 4);
        x.restore(1);
        due("the other one stays", x.ofChannel(0, 1), 2);
        x.restore(0);
        due("what was saved last", x.ofChannel(0, 1), 3);
        says("Promise 27: everything except the pad, the history and the slots");
        x = fresh();
        x.save(0);
        Bounds.type(x, "abc");
        x.goal(0, 7);
        x.save(1);
        x.restore(0);
        due("the pad is not restored", x.count(13), 3);
        due("the history is not restored", x.count(14), 2);
        due("the slots are not restored", x.restore(1), 0);
        due("the slot 1", x.ofChannel(0, 1), 7);
        says("Promise 27: nothing is different but the slot");
        for (int slot = 0; slot < 2; slot++) {
            int told = slot;
            Bounds.same("save(" + slot + "), then the state", y -> {
                Stages.later(y);
                y.save(told);
            }, Stages::later, false);
            x = Bounds.made(Stages::later);
            x.save(slot);
            due("history", x.count(14), 6);
            due("pad", x.count(13), 11);
        }
    }

    private static void restore() {
        says("Promise 28: BAD_VALUE if there is no such slot");
        for (int none : new int[] {-1, 2, FAR[0], FAR[1]}) {
            still("restore(" + none + ")", Stages::middle, x -> x.restore(none), BAD_VALUE);
            still("restore(" + none + "), ahead of nothing saved", Stages::empty, x -> x.restore(none), BAD_VALUE);
        }
        says("Promise 28: NOT_POSSIBLE if nothing was saved in it");
        still("neither one", Stages::written, x -> x.restore(0), NOT_POSSIBLE);
        still("neither one", Stages::written, x -> x.restore(1), NOT_POSSIBLE);
        still("only the slot 0", Stages::middle, x -> x.restore(1), NOT_POSSIBLE);
        still("only the slot 1", x -> x.save(1), x -> x.restore(0), NOT_POSSIBLE);
        undoable("the slot 0", Stages::middle, x -> x.restore(0), 7);
        undoable("the slot 1", x -> x.save(1), x -> x.restore(1), 0);
        says("Promise 28: returns how many cues there are then");
        RadioCues x = fresh();
        x.save(0);
        for (int n = 0; n < 24; n++) {
            x.cue(n, 1, 0, 9);
        }
        x.save(1);
        due("none", x.restore(0), 0);
        due("none", x.count(1), 0);
        due("24", x.restore(1), 24);
        due("24", x.count(1), 24);
        says("Promise 28: what was saved last in a slot, which keeps it");
        for (int n = 0; n < 4; n++) {
            x.takeOut(n);
            x.pass(9);
            x.sound(n, 9, 9);
            due("24 again", x.restore(1), 24);
            due("second 0 again", x.count(0), 0);
            due("no sound again", x.ofReel(n, 3), 0);
            due("its first cue again", x.ofCue(0, 0), 0);
        }
        says("Promise 28: this is a change: also with a full history");
        x = fresh();
        x.save(0);
        for (int n = 1; n <= 6; n++) {
            x.goal(0, n);
        }
        due("it", x.restore(0), 0);
        due("six", x.count(14), 6);
        due("undone", x.undo(), 5);
        due("the goal", x.ofChannel(0, 1), 6);
        due("the slot keeps it", x.restore(0), 0);
        due("the goal", x.ofChannel(0, 1), 50);
    }

    private static void restoredIsAll() {
        says("Promise 28: everything that was saved is as it was");
        Consumer<RadioCues> laterOn = x -> {
            x.set(WIND, 20);
            x.set(FADE, 99);
            x.set(LOUD, 10);
            x.sound(0, 9, 9);
            x.takeOut(x.count(1) - 1);
            x.pass(30);
            x.goal(0, 0);
        };
        for (int slot = 0; slot < 2; slot++) {
            int told = slot;
            Consumer<RadioCues> saved = x -> {
                Stages.later(x);
                x.save(told);
            };
            Bounds.same("behind other changes", saved.andThen(laterOn).andThen(x -> x.restore(told)), Stages::later, false);
            Bounds.same("behind begin()", saved.andThen(RadioCues::begin).andThen(x -> x.restore(told)), Stages::later, false);
            Bounds.same("behind undo()", saved.andThen(RadioCues::undo).andThen(x -> x.restore(told)), Stages::later, false);
            Bounds.same("twice", saved.andThen(x -> x.restore(told)).andThen(laterOn).andThen(x -> x.restore(told)),
                Stages::later, false);
            Bounds.same("a longer play", saved.andThen(x -> x.pass(200)).andThen(x -> x.restore(told)), Stages::later, false);
        }
        says("Promise 28: a restored state lives on without its slot");
        RadioCues x = fresh();
        x.cue(9, 1, 0, 9);
        x.save(0);
        x.restore(0);
        x.move(0, 5);
        x.pass(6);
        x.set(SLAM, 9);
        due("the cue of the slot", x.restore(0), 1);
        due("is at its second", x.ofCue(0, 0), 9);
        due("and to come", x.ofCue(0, 4), 0);
        due("the setting", x.count(10), 2);
        says("Promise 28: what comes behind restore() or undo() bears nothing of what was there");
        for (int way = 0; way < 2; way++) {
            x = fresh();
            x.save(0);
            due("all in one change", Bounds.carriedOut(x, "r0+2*50;s0:00;d0:1*40;g2"), 4);
            due("played", x.ofSound(0, 0, 3), 1);
            due("back", way == 0 ? x.restore(0) : x.undo(), 0);
            due("a sound", x.sound(0, 3, 30), 0);
            due("it was not played", x.ofSound(0, 0, 3), 0);
            due("a cue", x.cue(1, 1, 2, 20), 0);
            due("it is to come", x.ofCue(0, 4), 0);
            due("none was played", x.played(0, 0), NO_SUCH);
            due("no second is over", x.loud(0), NO_SUCH);
            x.pass(2);
            due("silent", x.loud(0), 0);
            due("the new door alone", x.loud(1), 20);
        }
    }
}
