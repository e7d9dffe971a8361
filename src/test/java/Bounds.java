import java.util.ArrayList;
import java.util.List;
import java.util.function.Consumer;
import java.util.function.Function;
import java.util.function.ToIntFunction;

/**
 * What the tests of the boundaries have in common: they ask, sentence by sentence, and compare all that can be seen of an
 * object on which a call was made with all that can be seen of one on which it was not. No object is used for more than
 * the 512 calls of the document: what is looked at is cut into parts, each on an object that is made for it anew.
 */
final class Bounds {
    static final int NO_SUCH = -1, BAD_VALUE = -2, BAD_TEXT = -3, TOO_MANY = -4, NOT_POSSIBLE = -5, NONE = -6;
    static final int WIND = 0, SLAM = 1, FADE = 2, LOUD = 3;

    /** What can be seen of the state that undo and the slots keep. */
    private static final List<Function<RadioCues, String>> STATE = List.of(Bounds::looks, Bounds::pastSeconds,
        Bounds::whatIfs, Bounds::laterSeconds);
    /** What can be seen of the rest: the pad, the history, the slots. */
    private static final List<Function<RadioCues, String>> BESIDE = List.of(Bounds::padText, Bounds::history,
        x -> slot(x, 0), x -> slot(x, 1));

    private static String sentence = "";
    private static int sentences;
    private static int asked;
    private static int wrong;

    private Bounds() { }

    /** The sentence of the document that the next answers belong to. */
    static void says(String words) {
        sentence = words;
        sentences++;
    }

    static void due(String what, int got, int want) {
        asked++;
        if (got != want) {
            wrong++;
            System.out.println(sentence + "\n    " + what + " answered " + got + ", due is " + want);
        }
    }

    static void end(String name) {
        System.out.println(name + ": " + sentences + " sentences, " + asked + " answers asked, " + wrong + " wrong");
        if (wrong != 0) {
            System.exit(1);
        }
    }

    static RadioCues made(Consumer<RadioCues> setup) {
        RadioCues x = new RadioCues();
        setup.accept(x);
        return x;
    }

    /** A call whose answer is due, and behind which nothing is different. */
    static void still(String what, Consumer<RadioCues> setup, ToIntFunction<RadioCues> call, int want) {
        due(what, call.applyAsInt(made(setup)), want);
        same(what + ", then everything", setup.andThen(call::applyAsInt), setup, true);
    }

    /** A change whose answer is due: it records one state, and undo() brings everything back. Not with a full history. */
    static void undoable(String what, Consumer<RadioCues> setup, ToIntFunction<RadioCues> call, int want) {
        RadioCues x = made(setup);
        int before = x.count(14);
        due(what, call.applyAsInt(x), want);
        due(what + ", then count(14)", x.count(14), before + 1);
        due(what + ", then undo()", x.undo(), before);
        same(what + ", undo(), then everything", setup.andThen(call::applyAsInt).andThen(RadioCues::undo), setup, true);
    }

    /** All that can be seen is the same behind two ways; with or without the pad, the history and the slots. */
    static void same(String what, Consumer<RadioCues> one, Consumer<RadioCues> other, boolean beside) {
        List<Function<RadioCues, String>> parts = new ArrayList<>(STATE);
        if (beside) {
            parts.addAll(BESIDE);
        }
        for (Function<RadioCues, String> part : parts) {
            String got = part.apply(made(one));
            String want = part.apply(made(other));
            due(what, got.equals(want) ? 1 : 0, 1);
            if (!got.equals(want)) {
                System.out.println("    it is  " + got + "\n    due is " + want);
            }
        }
    }

    /** Puts a text on the pad, eight characters at a time. */
    static void type(RadioCues x, String text) {
        for (int from = 0; from < text.length(); from += 8) {
            x.put(packed(text.substring(from, Math.min(text.length(), from + 8))));
        }
    }

    static int carriedOut(RadioCues x, String text) {
        type(x, text);
        return x.carryOut();
    }

    static long packed(String text) {
        long characters = 0;
        for (char c : text.toCharArray()) {
            characters = characters << 8 | c;
        }
        return characters;
    }

    static void pass(RadioCues x, int seconds) {
        for (int left = seconds; left > 0; left -= 200) {
            x.pass(Math.min(200, left));
        }
    }

    private static String looks(RadioCues x) {
        StringBuilder told = new StringBuilder("count:");
        for (int what = 0; what < 13; what++) {
            told.append(' ').append(x.count(what));
        }
        told.append(" cues:");
        int cues = x.count(1);
        for (int cue = 0; cue < cues; cue++) {
            for (int what = 0; what < 5; what++) {
                told.append(' ').append(x.ofCue(cue, what));
            }
        }
        told.append(" reels:");
        for (int k = 0; k < 4; k++) {
            for (int what = 0; what < 6; what++) {
                told.append(' ').append(x.ofReel(k, what));
            }
            int sounds = x.ofReel(k, 3);
            for (int sound = 0; sound < sounds; sound++) {
                for (int what = 0; what < 4; what++) {
                    told.append(' ').append(x.ofSound(k, sound, what));
                }
            }
        }
        told.append(" played:");
        for (int rank = 0; x.played(rank, 0) >= 0; rank++) {
            told.append(' ').append(x.played(rank, 0)).append(x.played(rank, 1)).append('*').append(x.played(rank, 2));
        }
        told.append(" channels:");
        for (int k = 0; k < 4; k++) {
            told.append(' ').append(x.ofChannel(k, 0)).append('>').append(x.ofChannel(k, 1)).append('|').append(x.ofChannel(k, 2));
        }
        return told.toString();
    }

    private static String pastSeconds(RadioCues x) {
        int now = x.count(0);
        StringBuilder told = new StringBuilder("heard:");
        for (int second = 0; second <= now; second += 1 + now / 200) {
            told.append(' ').append(x.loud(second));
        }
        return told.append(' ').append(x.loud(now - 1)).append(' ').append(x.loud(now)).toString();
    }

    private static String whatIfs(RadioCues x) {
        StringBuilder told = new StringBuilder("rest:");
        for (int what = 0; what < 5; what++) {
            told.append(' ').append(x.rest(what));
        }
        told.append(" leastWind: ").append(x.leastWind()).append(" cues:");
        int cues = x.count(1);
        for (int cue = 0; cue < cues; cue++) {
            told.append(' ').append(x.becomes(cue)).append(x.ifMoved(cue, x.count(0))).append(x.ifMoved(cue, 900));
        }
        told.append(" readyIn:");
        for (int reel = 0; reel < 4; reel++) {
            for (int sound = 0; sound < 6; sound++) {
                told.append(' ').append(x.readyIn(reel, sound));
            }
        }
        return told.toString();
    }

    private static String laterSeconds(RadioCues x) {
        int now = x.count(0);
        StringBuilder told = new StringBuilder("later:");
        for (int n = 0; n < 25; n++) {
            told.append(' ').append(x.pass(1)).append(' ').append(x.loud(now + n));
            for (int reel = 0; reel < 4; reel++) {
                told.append(' ').append(x.ofReel(reel, 0));
            }
        }
        return told.toString();
    }

    private static String shortLook(RadioCues x) {
        StringBuilder told = new StringBuilder();
        for (int what = 0; what < 15; what++) {
            told.append(' ').append(x.count(what));
        }
        for (int k = 0; k < 4; k++) {
            told.append(' ').append(x.ofReel(k, 0)).append(' ').append(x.ofReel(k, 2)).append(' ').append(x.ofReel(k, 4));
            told.append(' ').append(x.ofChannel(k, 0)).append(' ').append(x.ofChannel(k, 1)).append(' ').append(x.ofChannel(k, 2));
        }
        return told.append(' ').append(x.ofCue(0, 0)).append(' ').append(x.ofCue(x.count(1) - 1, 0)).toString();
    }

    private static String padText(RadioCues x) {
        String length = x.count(13) + " " + x.fault() + " ";
        return "pad: " + length + x.carryOut() + shortLook(x);
    }

    private static String history(RadioCues x) {
        StringBuilder told = new StringBuilder("history: ").append(x.count(14));
        for (int n = 0; n < 7; n++) {
            told.append(" undo ").append(x.undo()).append(shortLook(x));
        }
        return told.toString();
    }

    private static String slot(RadioCues x, int slot) {
        return "slot " + slot + ": " + x.restore(slot) + " " + looks(x);
    }
}
