import java.util.function.Consumer;

/**
 * The boundaries of what stands in the document ahead of the promises ("What it is" to "Texts"): each sentence by itself,
 * on both sides of its boundary.
 */
public final class TermsTest {
    private static final int NO_SUCH = Bounds.NO_SUCH, BAD_VALUE = Bounds.BAD_VALUE, BAD_TEXT = Bounds.BAD_TEXT,
        TOO_MANY = Bounds.TOO_MANY, NOT_POSSIBLE = Bounds.NOT_POSSIBLE, NONE = Bounds.NONE;
    private static final int WIND = Bounds.WIND, SLAM = Bounds.SLAM, FADE = Bounds.FADE, LOUD = Bounds.LOUD;
    private static final String DIGITS = "0123456789";

    private TermsTest() { }

    public static void main(String[] args) {
        manyCalls();
        conventions();
        settings();
        settingsAtTheirEnds();
        reelsAndChannels();
        tape();
        reelAtFirst();
        levels();
        loudness();
        script();
        orderOfCues();
        kinds();
        becameOfCues();
        cuesOfTheSecond();
        goalCues();
        doorCues();
        soundCues();
        soundSeconds();
        fading();
        together();
        playingOn();
        winding();
        windingTo();
        secondNow();
        padLength();
        numbers();
        eachCharacter();
        emptyText();
        Bounds.end("TermsTest");
    }

    private static void says(String words) {
        Bounds.says(words);
    }

    private static void due(String what, int got, int want) {
        Bounds.due(what, got, want);
    }

    private static RadioCues fresh() {
        return new RadioCues();
    }

    // ---- What it is, Terms

    private static void manyCalls() {
        says("What it is: at most 512 calls after it has been made");
        RadioCues x = fresh();
        for (int k = 0; k < 4; k++) {
            for (int n = 0; n < 6; n++) {
                x.sound(k, 60, 99);
            }
        }
        for (int n = 0; n < 24; n++) {
            x.cue(999, 0, n % 4, 5);
        }
        for (int n = 49; n < 511; n++) {
            due("call " + n + ", leastWind()", x.leastWind(), NONE);
        }
        due("call 511, rest(0)", x.rest(0), 1059);
        due("call 512, count(14)", x.count(14), 6);
    }

    private static void conventions() {
        says("CONVENTIONS: returns one of the error codes");
        due("NO_SUCH", RadioCues.NO_SUCH, -1);
        due("BAD_VALUE", RadioCues.BAD_VALUE, -2);
        due("BAD_TEXT", RadioCues.BAD_TEXT, -3);
        due("TOO_MANY", RadioCues.TOO_MANY, -4);
        due("NOT_POSSIBLE", RadioCues.NOT_POSSIBLE, -5);
        due("NONE", RadioCues.NONE, -6);
        says("CONVENTIONS: NONE is returned only if no error applies");
        RadioCues x = fresh();
        due("ofReel(0, 1)", x.ofReel(0, 1), NONE);
        due("ofReel(-1, 1)", x.ofReel(-1, 1), NO_SUCH);
        due("ofReel(4, 1)", x.ofReel(4, 1), NO_SUCH);
        due("ofReel(3, 5)", x.ofReel(3, 5), NONE);
        due("ofReel(4, 5)", x.ofReel(4, 5), NO_SUCH);
        due("ofReel(3, 6)", x.ofReel(3, 6), BAD_VALUE);
        due("count(6)", x.count(6), NONE);
        due("count(15)", x.count(15), BAD_VALUE);
        due("rest(2)", x.rest(2), NONE);
        due("rest(5)", x.rest(5), BAD_VALUE);
        says("CONVENTIONS: everything is numbered from 0");
        due("the first sound", x.sound(0, 1, 9), 0);
        due("the first cue", x.cue(0, 0, 0, 0), 0);
        x.pass(1);
        due("the first second", x.loud(0), 9);
        due("the first sound that was played", x.played(0, 2), 1);
        due("the loudest one", x.count(6), 0);
        says("CONVENTIONS: divisions are rounded down");
        x = fresh();
        x.goal(0, 49);
        x.cue(1, 1, 0, 1);
        x.cue(5, 1, 0, 99);
        x.set(SLAM, 1);
        x.pass(6);
        due("1 * 49 / 50", x.loud(1), 0);
        due("99 * 49 / 50", x.loud(5), 97);
        says("CONVENTIONS: sets are bit masks");
        for (int set = 0; set < 16; set++) {
            x = fresh();
            for (int k = 0; k < 4; k++) {
                x.sound(k, 9, 9);
                if ((set & 1 << k) != 0) {
                    x.cue(0, 0, k, 0);
                }
            }
            due("none ahead of it", x.count(8), 0);
            x.pass(1);
            due("the reels " + set, x.count(8), set);
        }
    }

    // ---- Settings

    private static void settings() {
        String[] names = {"WIND (1 to 20; 4)", "SLAM (1 to 9; 2)", "FADE (1 to 100; 10)", "LOUD (10 to 400; 150)"};
        int[][] bounds = {{1, 20, 4}, {1, 9, 2}, {1, 100, 10}, {10, 400, 150}};
        for (int s = 0; s < 4; s++) {
            says("Settings: " + names[s]);
            int setting = s;
            int least = bounds[s][0];
            int most = bounds[s][1];
            RadioCues x = fresh();
            due("its first value", x.count(9 + s), bounds[s][2]);
            due("the least", x.set(s, least), bounds[s][2]);
            due("it", x.count(9 + s), least);
            due("the most", x.set(s, most), least);
            due("it", x.count(9 + s), most);
            for (int other = 0; other < 4; other++) {
                due("the others stay", x.count(9 + other), other == s ? most : bounds[other][2]);
            }
            Bounds.still("below the least", Stages::middle, y -> y.set(setting, least - 1), BAD_VALUE);
            Bounds.still("above the most", Stages::middle, y -> y.set(setting, most + 1), BAD_VALUE);
            Bounds.still("0", Stages::middle, y -> y.set(setting, 0), BAD_VALUE);
            Bounds.still("far below", Stages::middle, y -> y.set(setting, Integer.MIN_VALUE), BAD_VALUE);
            Bounds.still("far above", Stages::middle, y -> y.set(setting, Integer.MAX_VALUE), BAD_VALUE);
        }
        says("The constants: WIND = 0, SLAM = 1, FADE = 2, LOUD = 3");
        due("WIND", RadioCues.WIND, 0);
        due("SLAM", RadioCues.SLAM, 1);
        due("FADE", RadioCues.FADE, 2);
        due("LOUD", RadioCues.LOUD, 3);
    }

    private static void settingsAtTheirEnds() {
        says("Settings: seconds of tape that a reel winds in a second");
        for (int wind : new int[] {1, 2, 19, 20}) {
            RadioCues x = fresh();
            x.set(WIND, wind);
            x.sound(0, 60, 9);
            x.sound(0, 1, 9);
            x.cue(900, 0, 0, 1);
            x.pass(1);
            due("WIND " + wind, x.ofReel(0, 0), wind);
            x.pass(1);
            due("WIND " + wind + ", twice", x.ofReel(0, 0), 2 * wind);
        }
        says("Settings: seconds for which a door is heard");
        for (int slam : new int[] {1, 2, 8, 9}) {
            RadioCues x = fresh();
            x.set(SLAM, slam);
            x.cue(0, 1, 0, 9);
            x.pass(20);
            due("SLAM " + slam + ", the last second of it", x.loud(slam - 1), 9);
            due("SLAM " + slam + ", the second behind it", x.loud(slam), 0);
        }
        says("Settings: by how much a level goes in a second");
        for (int fade : new int[] {1, 2, 49, 50, 51, 99, 100}) {
            RadioCues x = fresh();
            x.set(FADE, fade);
            x.goal(0, 100);
            x.goal(1, 0);
            x.pass(1);
            due("FADE " + fade + ", up", x.ofChannel(0, 0), Math.min(100, 50 + fade));
            due("FADE " + fade + ", down", x.ofChannel(1, 0), Math.max(0, 50 - fade));
            x.goal(0, 0);
            x.pass(1);
            due("FADE " + fade + ", down again", x.ofChannel(0, 0), Math.max(0, Math.min(100, 50 + fade) - fade));
        }
        says("Settings: what is louder is too loud");
        for (int loud : new int[] {10, 11, 99, 399, 400}) {
            for (int more = -1; more <= 1; more++) {
                RadioCues x = fresh();
                x.set(SLAM, 1);
                x.set(LOUD, loud);
                for (int left = loud + more; left > 0; left -= 99) {
                    x.cue(0, 1, left % 4, Math.min(99, left));
                }
                due("LOUD " + loud + ", so loud it would be", x.rest(3), loud + more);
                due("LOUD " + loud + ", it would be too loud", x.rest(4), more > 0 ? 1 : 0);
                x.pass(1);
                due("LOUD " + loud + ", so loud it was", x.loud(0), loud + more);
                due("LOUD " + loud + ", it was too loud", x.count(7), more > 0 ? 1 : 0);
            }
        }
    }

    // ---- Reels, channels

    private static void reelsAndChannels() {
        says("Reels, channels: there are 4 reels and 4 channels, 0 to 3");
        RadioCues x = fresh();
        for (int k = 0; k < 4; k++) {
            due("a sound of the reel " + k, x.sound(k, 1 + k, 9), 0);
            due("the reel " + k, x.ofReel(k, 4), 1 + k);
            due("a goal of the channel " + k, x.goal(k, 60 + k), 50);
            due("the channel " + k, x.ofChannel(k, 1), 60 + k);
        }
        for (int none : new int[] {-1, 4, Integer.MIN_VALUE, Integer.MAX_VALUE}) {
            Bounds.still("sound() of the reel " + none, Stages::middle, y -> y.sound(none, 1, 1), NO_SUCH);
            Bounds.still("goal() of the channel " + none, Stages::middle, y -> y.goal(none, 1), NO_SUCH);
        }
        says("Reels, channels: the reel k is heard by the channel k");
        for (int k = 0; k < 4; k++) {
            x = fresh();
            x.set(FADE, 100);
            for (int channel = 0; channel < 4; channel++) {
                x.goal(channel, channel == k ? 100 : 0);
            }
            x.sound(k, 3, 40);
            x.cue(0, 0, k, 0);
            x.pass(1);
            due("the reel " + k, x.loud(0), 80);
            for (int channel = 0; channel < 4; channel++) {
                x.goal(channel, channel == k ? 0 : 100);
            }
            x.pass(1);
            due("the reel " + k + ", silent", x.loud(1), 0);
        }
        says("Reels, channels: a reel has up to 6 sounds, numbered in the order in which they came");
        x = fresh();
        for (int n = 0; n < 6; n++) {
            due("sounds ahead of it", x.ofReel(2, 3), n);
            due("its number", x.sound(2, 10 + n, 20 + n), n);
        }
        due("sounds", x.ofReel(2, 3), 6);
        for (int n = 0; n < 6; n++) {
            due("the seconds of " + n, x.ofSound(2, n, 0), 10 + n);
            due("the loudness of " + n, x.ofSound(2, n, 1), 20 + n);
        }
        due("there is no sound 6", x.ofSound(2, 6, 0), NO_SUCH);
        Bounds.still("a seventh", Stages::full, y -> y.sound(0, 1, 1), TOO_MANY);
    }

    private static void tape() {
        says("Reels, channels: each lasts for some seconds (1 to 60)");
        due("1", fresh().sound(0, 1, 9), 0);
        due("60", fresh().sound(0, 60, 9), 0);
        for (int bad : new int[] {0, 61, -1, Integer.MIN_VALUE, Integer.MAX_VALUE}) {
            Bounds.still("" + bad, Stages::middle, y -> y.sound(3, bad, 9), BAD_VALUE);
        }
        says("Reels, channels: with a loudness (1 to 99)");
        due("1", fresh().sound(0, 9, 1), 0);
        due("99", fresh().sound(0, 9, 99), 0);
        for (int bad : new int[] {0, 100, -1, Integer.MIN_VALUE, Integer.MAX_VALUE}) {
            Bounds.still("" + bad, Stages::middle, y -> y.sound(3, 9, bad), BAD_VALUE);
        }
        says("Reels, channels: the sound 0 begins at the place 0, each other one where the one ahead ends");
        RadioCues x = fresh();
        int[] seconds = {1, 60, 2, 59, 1, 60};
        int place = 0;
        for (int n = 0; n < 6; n++) {
            due("the tape", x.ofReel(1, 4), place);
            x.sound(1, seconds[n], 9);
            due("the sound " + n, x.ofSound(1, n, 2), place);
            place += seconds[n];
        }
        due("the tape", x.ofReel(1, 4), 183);
        due("another tape", x.ofReel(0, 4), 0);
        x = fresh();
        for (int n = 0; n < 6; n++) {
            x.sound(0, 60, 1);
        }
        due("the longest tape", x.ofReel(0, 4), 360);
        due("its last sound", x.ofSound(0, 5, 2), 300);
    }

    private static void reelAtFirst() {
        says("Reels, channels: the reel stands at a place (0 at first), and plays a sound, or does not (at first)");
        RadioCues x = fresh();
        for (int k = 0; k < 4; k++) {
            due("place", x.ofReel(k, 0), 0);
            due("plays", x.ofReel(k, 1), NONE);
            due("left", x.ofReel(k, 2), 0);
        }
        says("Reels, channels: with seconds that are left");
        x.sound(0, 3, 9);
        x.cue(0, 0, 0, 0);
        int[] left = {2, 1, 0, 0};
        for (int n = 0; n < 4; n++) {
            x.pass(1);
            due("left behind second " + n, x.ofReel(0, 2), left[n]);
            due("plays behind second " + n, x.ofReel(0, 1), left[n] > 0 ? 0 : NONE);
            due("place behind second " + n, x.ofReel(0, 0), 3 - left[n]);
        }
    }

    private static void levels() {
        says("Reels, channels: each channel has a level, 0 to 100, and a goal, 0 to 100 (50 both at first)");
        RadioCues x = fresh();
        x.set(FADE, 7);
        for (int k = 0; k < 4; k++) {
            due("level", x.ofChannel(k, 0), 50);
            due("goal", x.ofChannel(k, 1), 50);
            x.goal(k, k % 2 == 0 ? 100 : 0);
        }
        x.pass(7);
        due("near to 100", x.ofChannel(0, 0), 99);
        due("near to 0", x.ofChannel(1, 0), 1);
        x.pass(1);
        due("100", x.ofChannel(2, 0), 100);
        due("0", x.ofChannel(3, 0), 0);
        x.pass(1);
        due("100 yet", x.ofChannel(2, 0), 100);
        due("0 yet", x.ofChannel(3, 0), 0);
        due("the goal", x.ofChannel(2, 1), 100);
        due("the goal", x.ofChannel(3, 1), 0);
    }

    private static void loudness() {
        says("Reels, channels: a sound or a door of the loudness v gives v * level / 50, each by itself");
        int[][] all = {{0, 99, 0}, {1, 49, 0}, {1, 50, 1}, {49, 1, 0}, {49, 50, 49}, {49, 51, 49}, {49, 2, 1}, {50, 99, 99},
            {51, 49, 49}, {51, 50, 51}, {99, 1, 1}, {99, 99, 196}, {100, 1, 2}, {100, 99, 198}};
        for (int[] one : all) {
            RadioCues x = fresh();
            x.set(FADE, 100);
            x.goal(3, one[0]);
            x.sound(3, 1, one[1]);
            x.cue(0, 0, 3, 0);
            x.cue(4, 1, 3, one[1]);
            x.cue(8, 1, 3, one[1]);
            x.cue(8, 1, 3, one[1]);
            x.pass(9);
            due("a sound of " + one[1] + " at the level " + one[0], x.loud(0), one[2]);
            due("a door of " + one[1] + " at the level " + one[0], x.loud(4), one[2]);
            due("two doors of " + one[1] + " at the level " + one[0], x.loud(8), 2 * one[2]);
        }
        RadioCues x = fresh();
        x.set(FADE, 100);
        x.goal(1, 75);
        x.sound(1, 1, 1);
        x.cue(0, 0, 1, 0);
        x.cue(0, 1, 1, 1);
        x.pass(1);
        due("a sound and a door of 1 at the level 75", x.loud(0), 2);
    }

    // ---- Cues

    private static void script() {
        says("Cues: a script has up to 24 cues");
        RadioCues x = fresh();
        for (int n = 0; n < 24; n++) {
            due("cues ahead of it", x.count(1), n);
            due("its rank", x.cue(n, 1, 0, 9), n);
        }
        due("cues", x.count(1), 24);
        due("the last one", x.ofCue(23, 0), 23);
        Bounds.still("a 25th", Stages::full, y -> y.cue(999, 1, 0, 9), TOO_MANY);
        x.takeOut(5);
        due("a free place again", x.cue(0, 1, 0, 8), 1);
        due("none is free", x.cue(0, 1, 0, 8), TOO_MANY);
        says("Cues: at seconds 0 to 999");
        due("0", fresh().cue(0, 1, 0, 9), 0);
        due("999", fresh().cue(999, 1, 0, 9), 0);
        for (int bad : new int[] {-1, 1000, Integer.MIN_VALUE, Integer.MAX_VALUE}) {
            Bounds.still("" + bad, Stages::empty, y -> y.cue(bad, 1, 0, 9), BAD_VALUE);
        }
    }

    private static void orderOfCues() {
        says("Cues: sorted by these, of one second in the order in which they came there");
        RadioCues x = fresh();
        due("5", x.cue(5, 1, 0, 1), 0);
        due("4, ahead", x.cue(4, 1, 0, 2), 0);
        due("6, behind", x.cue(6, 1, 0, 3), 2);
        due("5, behind the one there", x.cue(5, 1, 0, 4), 2);
        due("4, behind the one there", x.cue(4, 1, 0, 5), 1);
        due("6, at the end", x.cue(6, 1, 0, 6), 5);
        int[] order = {2, 5, 1, 4, 3, 6};
        for (int rank = 0; rank < 6; rank++) {
            due("the cue " + rank, x.ofCue(rank, 3), order[rank]);
        }
        due("away", x.move(2, 6), 5);
        due("and back: it came there last", x.move(5, 5), 3);
        due("the one that stayed", x.ofCue(2, 3), 4);
        due("the one that came", x.ofCue(3, 3), 1);
    }

    private static void kinds() {
        says("Cues: a sound of a reel (kind 0), or a door with a loudness on a channel (1), or a goal of a channel (2)");
        RadioCues x = fresh();
        x.sound(3, 5, 40);
        due("kind 0", x.cue(0, 0, 3, 0), 0);
        due("kind 1", x.cue(0, 1, 2, 30), 1);
        due("kind 2", x.cue(0, 2, 1, 20), 2);
        x.pass(1);
        due("the sound", x.ofReel(3, 1), 0);
        due("the door", x.ofChannel(2, 2), 1);
        due("the goal", x.ofChannel(1, 1), 20);
        Bounds.still("kind -1", Stages::middle, y -> y.cue(99, -1, 0, 0), BAD_VALUE);
        Bounds.still("kind 3", Stages::middle, y -> y.cue(99, 3, 0, 0), BAD_VALUE);
    }

    private static void becameOfCues() {
        says("Cues: to come (0), was done (1), or was missed: as the reel played (2), as the reel was not there (3)");
        RadioCues x = fresh();
        x.set(WIND, 1);
        x.sound(0, 2, 9);
        x.cue(0, 0, 0, 0);
        x.cue(1, 0, 0, 0);
        x.cue(2, 0, 0, 0);
        x.cue(3, 1, 0, 9);
        x.cue(4, 2, 0, 9);
        x.cue(5, 0, 0, 0);
        int[][] fates = {{0, 0, 0, 0, 0, 0}, {1, 0, 0, 0, 0, 0}, {1, 2, 0, 0, 0, 0}, {1, 2, 3, 0, 0, 0}, {1, 2, 3, 1, 0, 0},
            {1, 2, 3, 1, 1, 0}, {1, 2, 3, 1, 1, 1}};
        for (int second = 0; second < fates.length; second++) {
            for (int cue = 0; cue < 6; cue++) {
                due("the cue " + cue + " at second " + second, x.ofCue(cue, 4), fates[second][cue]);
            }
            x.pass(1);
        }
    }

    // ---- A second

    private static void cuesOfTheSecond() {
        says("A second, 1: the cues of this second come");
        RadioCues x = fresh();
        x.cue(0, 1, 0, 9);
        x.cue(1, 1, 0, 9);
        due("none ahead of it", x.count(2), 2);
        x.pass(1);
        due("the one of second 0", x.ofCue(0, 4), 1);
        due("not the one of second 1", x.ofCue(1, 4), 0);
        x.pass(1);
        due("the one of second 1", x.ofCue(1, 4), 1);
        says("A second, 1: by ranks");
        x = fresh();
        x.set(FADE, 100);
        x.cue(0, 2, 0, 20);
        x.cue(0, 2, 0, 30);
        x.pass(1);
        due("the later goal", x.ofChannel(0, 0), 30);
        x = fresh();
        x.sound(0, 2, 9);
        x.cue(0, 0, 0, 0);
        x.cue(0, 0, 0, 0);
        x.pass(1);
        due("the first one plays", x.ofCue(0, 4), 1);
        due("the second one is missed", x.ofCue(1, 4), 2);
    }

    private static void goalCues() {
        says("A second, 1: a goal: the channel gets it");
        for (int goal : new int[] {0, 1, 49, 50, 51, 99, 100}) {
            RadioCues x = fresh();
            x.set(FADE, 3);
            x.cue(1, 2, 2, goal);
            x.pass(1);
            due("not ahead of it", x.ofChannel(2, 1), 50);
            x.pass(1);
            due("the goal", x.ofChannel(2, 1), goal);
            due("the level goes in the same second", x.ofChannel(2, 0), goal < 50 ? Math.max(goal, 47) : Math.min(goal, 53));
            due("another channel", x.ofChannel(1, 1), 50);
        }
    }

    private static void doorCues() {
        says("A second, 1: a door: it is heard for SLAM seconds, with this one");
        for (int slam = 1; slam <= 9; slam++) {
            RadioCues x = fresh();
            x.set(SLAM, slam);
            x.cue(2, 1, 1, 40);
            x.pass(20);
            for (int second = 0; second < 20; second++) {
                due("SLAM " + slam + ", second " + second, x.loud(second), second >= 2 && second < 2 + slam ? 40 : 0);
            }
        }
        RadioCues x = fresh();
        x.set(SLAM, 9);
        for (int n = 0; n < 24; n++) {
            x.cue(0, 1, 0, 99);
        }
        x.pass(1);
        due("24 doors are heard", x.ofChannel(0, 2), 24);
        due("24 doors together", x.loud(0), 24 * 99);
        x.pass(7);
        due("24 doors yet", x.ofChannel(0, 2), 24);
        due("for one second", x.rest(0), 1);
        x.pass(1);
        due("in their last second", x.loud(8), 24 * 99);
        due("none is heard any more", x.ofChannel(0, 2), 0);
        due("none is left", x.rest(0), 0);
    }

    private static void soundCues() {
        says("A second, 1: if the reel plays, the cue is missed (2)");
        RadioCues x = fresh();
        x.sound(0, 4, 9);
        x.sound(0, 4, 9);
        x.cue(0, 0, 0, 0);
        for (int second = 0; second <= 4; second++) {
            x.cue(second, 0, 0, 1);
        }
        x.pass(5);
        for (int cue = 1; cue <= 4; cue++) {
            due("in second " + (cue - 1) + " of 4", x.ofCue(cue, 4), 2);
        }
        due("in the second behind its last one", x.ofCue(5, 4), 1);
        x = fresh();
        x.sound(0, 1, 9);
        x.sound(0, 4, 9);
        x.cue(0, 0, 0, 0);
        x.cue(0, 0, 0, 1);
        x.cue(1, 0, 0, 1);
        x.pass(2);
        due("in the only second of a sound", x.ofCue(1, 4), 2);
        due("behind it", x.ofCue(2, 4), 1);
        says("A second, 1: otherwise, if the reel does not stand where that sound begins, it is missed (3)");
        for (int way = 1; way <= 60; way += way == 1 ? 4 : 5) {
            for (int more = -1; more <= 1; more++) {
                x = fresh();
                x.set(WIND, 1);
                x.sound(1, way, 9);
                x.sound(1, 9, 9);
                x.cue(way + more, 0, 1, 1);
                x.pass(way + more + 1);
                due("way " + way + ", " + (way + more) + " seconds", x.ofCue(0, 4), more < 0 ? 3 : 1);
            }
        }
        x = fresh();
        x.sound(0, 4, 9);
        x.cue(0, 0, 0, 0);
        x.cue(4, 0, 0, 0);
        x.pass(4);
        due("wound back by 4 in the second of its end", x.ofReel(0, 0), 0);
        x.undo();
        x.set(WIND, 3);
        x.pass(5);
        due("one place beyond", x.ofCue(1, 4), 3);
        says("A second, 1: a reel that plays another cue's sound misses it as it plays, wherever it stands");
        x = fresh();
        x.sound(0, 2, 9);
        x.sound(0, 2, 9);
        x.cue(0, 0, 0, 0);
        x.cue(0, 0, 0, 1);
        x.cue(0, 0, 0, 0);
        x.pass(1);
        due("not there either", x.ofCue(1, 4), 2);
        due("there yet", x.ofCue(2, 4), 2);
    }

    private static void soundSeconds() {
        says("A second, 1: otherwise it plays that sound, for all its seconds, with this one");
        for (int seconds : new int[] {1, 2, 3, 59, 60}) {
            RadioCues x = fresh();
            x.sound(2, seconds, 30);
            x.cue(1, 0, 2, 0);
            x.pass(65);
            due("ahead of it", x.loud(0), 0);
            due("its first second", x.loud(1), 30);
            due("its last second of " + seconds, x.loud(seconds), 30);
            due("the second behind it", x.loud(seconds + 1), 0);
            due("the reel stands behind it", x.ofReel(2, 0), seconds);
        }
    }

    private static void fading() {
        says("A second, 2: the level of each channel goes FADE nearer to its goal, but not beyond");
        for (int far : new int[] {0, 1, 6, 7, 8, 13, 14, 15, 50}) {
            RadioCues x = fresh();
            x.set(FADE, 7);
            x.goal(0, 50 + far);
            x.goal(3, 50 - far);
            for (int second = 1; second <= 8; second++) {
                x.pass(1);
                due("up by " + far + " in " + second, x.ofChannel(0, 0), 50 + Math.min(far, 7 * second));
                due("down by " + far + " in " + second, x.ofChannel(3, 0), 50 - Math.min(far, 7 * second));
                due("a channel without way", x.ofChannel(1, 0), 50);
            }
        }
        says("A second, 3: what is heard is told by the levels as they are then");
        RadioCues x = fresh();
        x.set(FADE, 50);
        x.cue(0, 1, 0, 50);
        x.goal(0, 100);
        x.pass(1);
        due("behind step 2", x.loud(0), 100);
    }

    private static void together() {
        says("A second, 3: all sounds that are played give, and all doors, by their channels, together");
        RadioCues x = fresh();
        x.set(FADE, 100);
        x.set(SLAM, 1);
        int sum = 0;
        for (int k = 0; k < 4; k++) {
            x.sound(k, 2, 10 + k);
            x.cue(0, 0, k, 0);
            x.cue(0, 1, k, 20 + k);
            x.goal(k, 25 * k);
            sum += (10 + k) * 25 * k / 50 + (20 + k) * 25 * k / 50;
        }
        x.pass(3);
        due("four sounds and four doors", x.loud(0), sum);
        due("four sounds", x.loud(1), 10 * 0 + 11 / 2 + 12 + 13 * 3 / 2);
        due("nothing", x.loud(2), 0);
    }

    private static void playingOn() {
        says("A second, 4: its place is 1 more, one second less is left; with none left it does not play any more");
        RadioCues x = fresh();
        x.sound(0, 3, 9);
        x.sound(0, 2, 9);
        x.cue(3, 0, 0, 1);
        x.pass(4);
        due("place", x.ofReel(0, 0), 4);
        due("left", x.ofReel(0, 2), 1);
        due("plays", x.ofReel(0, 1), 1);
        due("the set", x.count(8), 1);
        x.pass(1);
        due("place", x.ofReel(0, 0), 5);
        due("left", x.ofReel(0, 2), 0);
        due("does not play", x.ofReel(0, 1), NONE);
        due("the set", x.count(8), 0);
        x.pass(1);
        due("stands at the end of the tape", x.ofReel(0, 0), 5);
        says("A second, 4: each door is heard for one second less");
        x = fresh();
        x.set(SLAM, 3);
        x.cue(0, 1, 0, 9);
        x.cue(1, 1, 0, 9);
        int[] doors = {1, 2, 1, 0, 0};
        for (int second = 0; second < doors.length; second++) {
            x.pass(1);
            due("behind second " + second, x.ofChannel(0, 2), doors[second]);
        }
        x = fresh();
        x.set(FADE, 100);
        x.goal(3, 100);
        int[] slams = {4, 1, 3, 2};
        int[] loudnesses = {1, 20, 3, 40};
        for (int n = 0; n < 4; n++) {
            x.cue(n, 1, n, loudnesses[n]);
        }
        int[] heard = {1, 21, 4, 1 + 3 + 80, 3 + 80, 0};
        int[] sets = {1, 1, 5, 12, 0, 0};
        for (int second = 0; second < heard.length; second++) {
            x.set(SLAM, second < 4 ? slams[second] : 9);
            x.pass(1);
            due("those that are left, each on its channel: second " + second, x.loud(second), heard[second]);
            int set = 0;
            for (int k = 0; k < 4; k++) {
                set |= x.ofChannel(k, 2) << k;
            }
            due("the channels behind second " + second, set, sets[second]);
        }
    }

    private static void winding() {
        says("A second, 5: each reel that does not play now");
        RadioCues x = fresh();
        x.sound(0, 3, 9);
        x.sound(0, 9, 9);
        x.sound(0, 1, 9);
        x.sound(1, 9, 9);
        x.sound(1, 9, 9);
        x.cue(0, 0, 0, 0);
        x.cue(50, 0, 0, 2);
        x.cue(50, 0, 1, 1);
        int[] places = {1, 2, 7, 11, 12, 12};
        int[] others = {4, 8, 9, 9, 9, 9};
        for (int second = 0; second < places.length; second++) {
            x.pass(1);
            due("plays for three seconds, winds in the last one: second " + second, x.ofReel(0, 0), places[second]);
            due("another one winds all the time: second " + second, x.ofReel(1, 0), others[second]);
        }
        says("A second, 5: it winds WIND nearer to the place where that sound begins, but not beyond");
        for (int way : new int[] {1, 5, 6, 7, 11, 12, 13, 60}) {
            x = fresh();
            x.set(WIND, 6);
            x.sound(0, way, 9);
            x.sound(0, 1, 9);
            x.cue(200, 0, 0, 1);
            for (int second = 1; second <= 11; second++) {
                x.pass(1);
                due("forth by " + way + " in " + second, x.ofReel(0, 0), Math.min(way, 6 * second));
            }
            x.cue(100, 0, 0, 0);
            for (int second = 1; second <= 11; second++) {
                x.pass(1);
                due("back by " + way + " in " + second, x.ofReel(0, 0), Math.max(0, way - 6 * second));
            }
        }
        says("A second, 5: if there is none, it stands still");
        x = fresh();
        x.sound(0, 9, 9);
        x.sound(0, 9, 9);
        x.cue(9, 0, 0, 1);
        x.pass(1);
        due("there is one", x.ofReel(0, 0), 4);
        x.takeOut(0);
        x.pass(5);
        due("there is none", x.ofReel(0, 0), 4);
        x.cue(9, 1, 0, 1);
        x.cue(9, 2, 0, 1);
        x.pass(1);
        due("a door and a goal are no sounds", x.ofReel(0, 0), 4);
        x.sound(1, 9, 9);
        x.cue(9, 0, 1, 0);
        x.pass(1);
        due("another reel's is not its own", x.ofReel(0, 0), 4);
    }

    private static void windingTo() {
        says("A second, 5: of the cues that are to come the first one that calls a sound of it");
        RadioCues x = fresh();
        x.sound(0, 9, 9);
        x.sound(0, 9, 9);
        x.sound(0, 9, 9);
        x.cue(5, 0, 0, 1);
        x.cue(5, 0, 0, 0);
        x.cue(4, 1, 0, 9);
        x.pass(5);
        due("the first one by ranks", x.ofReel(0, 0), 9);
        x.pass(1);
        due("it plays", x.ofReel(0, 0), 10);
        x.cue(20, 0, 0, 2);
        x.pass(8);
        due("the one that was missed is not to come", x.ofReel(0, 0), 18);
        due("it was missed", x.ofCue(2, 4), 2);
        x = fresh();
        x.sound(0, 9, 9);
        x.sound(0, 9, 9);
        x.cue(0, 0, 0, 1);
        x.pass(1);
        due("one of this second came already", x.ofReel(0, 0), 0);
        x.cue(2, 0, 0, 1);
        x.pass(1);
        due("one of the next second is to come", x.ofReel(0, 0), 4);
        x.pass(1);
        due("missed", x.ofCue(1, 4), 3);
        due("stands still", x.ofReel(0, 0), 4);
    }

    private static void secondNow() {
        says("A second: the second now is 0 at first; then it is 1 more");
        RadioCues x = fresh();
        for (int second = 0; second < 5; second++) {
            due("now", x.count(0), second);
            x.pass(1);
        }
        x.pass(200);
        due("now", x.count(0), 205);
    }

    // ---- Texts

    private static void padLength() {
        says("Texts: the pad is a text of at most 80 characters");
        String seventyNine = "g1;".repeat(26) + "g";
        RadioCues x = fresh();
        Bounds.type(x, seventyNine);
        due("79", x.count(13), 79);
        due("the 80th", x.put('1'), 80);
        due("no fault", x.fault(), NONE);
        due("27 orders", x.carryOut(), 27);
        due("27 seconds", x.count(0), 27);
        Consumer<RadioCues> eighty = y -> Bounds.type(y, seventyNine + "1");
        Bounds.still("the 81st", eighty, y -> y.put('1'), TOO_MANY);
        says("Texts: the fault of a text of 80 characters");
        x = fresh();
        Bounds.type(x, seventyNine + ";");
        due("at its last character", x.fault(), 79);
        x = fresh();
        Bounds.type(x, "g1;".repeat(25) + "g10;g");
        due("it ends too early", x.fault(), 80);
        Bounds.still("carryOut()", y -> Bounds.type(y, "g1;".repeat(25) + "g10;g"), RadioCues::carryOut, BAD_TEXT);
    }

    private static void numbers() {
        says("Texts: a number 0 to 999, without leading zeros");
        String[] good = {"0", "1", "9", "10", "99", "100", "101", "909", "990", "998", "999"};
        for (String number : good) {
            int value = Integer.parseInt(number);
            due("g" + number, faultOf("g" + number), NONE);
            RadioCues x = fresh();
            due("d" + number + ":0*5", Bounds.carriedOut(x, "d" + number + ":0*5"), 1);
            due("its second", x.ofCue(0, 0), value);
            x = fresh();
            due("l5:0=" + number, Bounds.carriedOut(x, "l5:0=" + number), value <= 100 ? 1 : 0);
            due("its goal", x.ofCue(0, 3), value <= 100 ? value : NO_SUCH);
            x = fresh();
            due("g" + number, Bounds.carriedOut(x, "g" + number), value >= 1 && value <= 200 ? 1 : 0);
            due("its seconds", x.count(0), value <= 200 ? value : 0);
        }
        int[] zeros = {faultOf("g00"), faultOf("g01"), faultOf("g000"), faultOf("g0;g00"), faultOf("g0"), faultOf("g10")};
        int[] ofZeros = {2, 2, 2, 5, NONE, NONE};
        for (int i = 0; i < zeros.length; i++) {
            due("leading zeros, text " + i, zeros[i], ofZeros[i]);
        }
        says("Texts: the fault (also of a digit by which a number would be above 999)");
        due("g999", faultOf("g999"), NONE);
        due("g1000", faultOf("g1000"), 4);
        due("g9990", faultOf("g9990"), 4);
        due("g99999", faultOf("g99999"), 4);
        due("s999:", faultOf("s999:"), 5);
        due("s1000:00", faultOf("s1000:00"), 4);
        due("g1;d1000:0*1", faultOf("g1;d1000:0*1"), 7);
        says("Texts: a digit is 0 to 9");
        for (char c : DIGITS.toCharArray()) {
            due("r" + c, faultOf("r" + c + "+1*1"), NONE);
            due("s0:" + c, faultOf("s0:" + c + c), NONE);
            due("d0:" + c, faultOf("d0:" + c + "*1"), NONE);
            due("l0:" + c, faultOf("l0:" + c + "=1"), NONE);
        }
        due("two of them", faultOf("r10+1*1"), 2);
        due("the sign ahead of 0", faultOf("r/+1*1"), 1);
        due("the sign behind 9", faultOf("r:+1*1"), 1);
    }

    private static int faultOf(String text) {
        RadioCues x = fresh();
        Bounds.type(x, text);
        return x.fault();
    }

    /** The beginnings of orders, with the characters that can follow; "." tells that the order can end there. */
    private static final String[][] CAN_FOLLOW = {
        {"", "rsdlg"},
        {"r", DIGITS}, {"r0", "+"}, {"r9", "+"}, {"r0+", DIGITS}, {"r0+0", "*"}, {"r0+1", "*" + DIGITS}, {"r0+20", "*" + DIGITS},
        {"r0+999", "*"}, {"r0+100", "*"}, {"r0+1*", DIGITS}, {"r0+1*0", ";."}, {"r0+1*9", ";." + DIGITS},
        {"r0+1*10", ";." + DIGITS}, {"r0+1*100", ";."}, {"r0+999*999", ";."},
        {"s", DIGITS}, {"s0", ":"}, {"s1", ":" + DIGITS}, {"s99", ":" + DIGITS}, {"s999", ":"}, {"s0:", DIGITS}, {"s0:0", DIGITS},
        {"s0:9", DIGITS}, {"s0:00", ";."}, {"s999:99", ";."},
        {"d", DIGITS}, {"d0", ":"}, {"d7", ":" + DIGITS}, {"d70", ":" + DIGITS}, {"d700", ":"}, {"d7:", DIGITS}, {"d7:0", "*"},
        {"d7:9", "*"}, {"d7:0*", DIGITS}, {"d7:0*0", ";."}, {"d7:0*1", ";." + DIGITS}, {"d7:0*99", ";." + DIGITS},
        {"d7:0*999", ";."},
        {"l", DIGITS}, {"l0", ":"}, {"l3", ":" + DIGITS}, {"l30", ":" + DIGITS}, {"l300", ":"}, {"l3:", DIGITS}, {"l3:0", "="},
        {"l3:9", "="}, {"l3:0=", DIGITS}, {"l3:0=0", ";."}, {"l3:0=1", ";." + DIGITS}, {"l3:0=10", ";." + DIGITS},
        {"l3:0=100", ";."},
        {"g", DIGITS}, {"g0", ";."}, {"g1", ";." + DIGITS}, {"g10", ";." + DIGITS}, {"g100", ";."}, {"g999", ";."}};

    private static void eachCharacter() {
        says("Texts: the fault is the index of the first character that cannot stand at its place");
        for (String ahead : new String[] {"", "g1;", "r0+1*1;s0:00;d0:0*1;l0:0=1;g1;"}) {
            for (String[] place : CAN_FOLLOW) {
                String begun = ahead + place[0];
                RadioCues x = fresh();
                for (char c = 33; c <= 126; c++) {
                    x.wipe();
                    Bounds.type(x, begun);
                    x.put(c);
                    int fault = x.fault();
                    if (place[1].indexOf(c) < 0 || c == '.') {
                        due(begun + c, fault, begun.length());
                    } else if (fault != NONE) {
                        due(begun + c, fault, begun.length() + 1);
                    }
                    if (c == 80) {
                        x = fresh();
                    }
                }
            }
        }
        says("Texts: if there is none and the text ends too early, it is the length of the text");
        for (String[] place : CAN_FOLLOW) {
            int length = place[0].length();
            boolean whole = place[1].indexOf('.') >= 0;
            due("\"" + place[0] + "\"", faultOf(place[0]), whole ? NONE : length);
            due("\"g1;" + place[0] + "\"", faultOf("g1;" + place[0]), whole ? NONE : length + 3);
            if (whole) {
                due("\"" + place[0] + ";\"", faultOf(place[0] + ";"), length + 1);
                due("\"" + place[0] + ";;\"", faultOf(place[0] + ";;"), length + 1);
            }
        }
        says("Texts: when the text is read from left to right: the first one of several");
        due("two faults", faultOf("g1x;g01"), 2);
        due("a fault, and it ends too early", faultOf("g01;"), 2);
        due("of the second order", faultOf("g1;x;y"), 3);
    }

    private static void emptyText() {
        says("Texts: also if it is empty");
        RadioCues x = fresh();
        due("never written", x.fault(), 0);
        x.put('g');
        due("one character", x.fault(), 1);
        x.wipe();
        due("wiped", x.fault(), 0);
        Bounds.type(x, "g1");
        x.carryOut();
        due("carried out", x.fault(), 0);
        due("carryOut()", x.carryOut(), BAD_TEXT);
        due("an order that is not possible is no fault", faultOf("g0;r9+0*0;s999:99"), NONE);
    }
}
