import java.util.ArrayDeque;
import java.util.ArrayList;
import java.util.Deque;
import java.util.List;
import java.util.Random;

/** Runs of up to 512 calls, drawn from fixed seeds, on the class and on the plain model: all answers have to agree. */
public final class RandomRunsTest {
    private static final int[] ODD = {Integer.MIN_VALUE, Integer.MIN_VALUE + 1, -1000, -7, -6, -2, -1, 0, 1, 2, 3, 4, 5, 6,
        7, 9, 10, 11, 14, 15, 20, 21, 23, 24, 25, 60, 61, 80, 99, 100, 101, 200, 201, 400, 401, 999, 1000, 1199, 1200, 1201,
        Integer.MAX_VALUE - 1, Integer.MAX_VALUE};

    private final Random random;
    private final RadioCues real = new RadioCues();
    private final PlainModel model = new PlainModel();
    private final List<String> told = new ArrayList<>();
    private final Deque<Long> textLeft = new ArrayDeque<>();
    private final int oddOnes;
    private final int horizon;

    private RandomRunsTest(long seed) {
        random = new Random(seed);
        oddOnes = new int[] {0, 0, 3, 10, 60}[random.nextInt(5)];
        horizon = new int[] {8, 30, 100, 400, 1000}[random.nextInt(5)];
    }

    public static void main(String[] args) {
        int runs = args.length > 0 ? Integer.parseInt(args[0]) : 400;
        int wrong = 0;
        for (int seed = 1; seed <= runs && wrong < 5; seed++) {
            RandomRunsTest run = new RandomRunsTest(seed);
            if (!run.agrees()) {
                wrong++;
                System.out.println("seed " + seed + ":\n  " + String.join("\n  ", run.told));
            }
        }
        System.out.println(wrong == 0 ? runs + " random runs agree" : "random runs disagree");
        if (wrong != 0) {
            System.exit(1);
        }
    }

    private boolean agrees() {
        for (int call = 0; call < 512; call++) {
            if (!oneCall()) {
                return false;
            }
        }
        return true;
    }

    private boolean due(String call, int got, int want) {
        told.add(call + " = " + got + (got == want ? "" : ", due is " + want));
        return got == want;
    }

    /** A number from least to most, or now and then any odd one. */
    private int in(int least, int most) {
        if (random.nextInt(100) < oddOnes) {
            return random.nextBoolean() ? ODD[random.nextInt(ODD.length)] : least - 1 + random.nextInt(2) * (most - least + 2);
        }
        return least + random.nextInt(most - least + 1);
    }

    private int near() {
        return random.nextInt(20) == 0 ? in(0, 999) : in(0, 0) + Math.min(999, model.count(0) + random.nextInt(horizon));
    }

    private int aCue() {
        return in(0, Math.max(0, model.count(1) - 1));
    }

    private int aSound(int reel) {
        int sounds = model.ofReel(reel, 3);
        return in(0, Math.max(0, sounds - 1));
    }

    private boolean oneCall() {
        if (!textLeft.isEmpty() && random.nextInt(8) != 0) {
            return put(textLeft.removeFirst());
        }
        int kind = random.nextInt(100);
        if (kind < 50) {
            return change(random.nextInt(24));
        }
        if (kind < 72) {
            return look(random.nextInt(7));
        }
        return kind < 86 ? whatIf(random.nextInt(5)) : textOrState(random.nextInt(14));
    }

    private boolean change(int which) {
        int reel = in(0, 3);
        switch (which) {
            case 0: {
                int setting = in(0, 3);
                int value = new int[] {in(1, 20), in(1, 9), in(1, 100), in(10, 400)}[Math.floorMod(setting, 4)];
                return due("set(" + setting + ", " + value + ")", real.set(setting, value), model.set(setting, value));
            }
            case 1: case 2: case 3: {
                int seconds = random.nextBoolean() ? in(1, 6) : in(1, 60);
                int loudness = in(1, 99);
                return due("sound(" + reel + ", " + seconds + ", " + loudness + ")", real.sound(reel, seconds, loudness),
                        model.sound(reel, seconds, loudness));
            }
            case 4: case 5: case 6: case 7: case 8: case 9: case 10: {
                int second = near();
                int kind = random.nextBoolean() ? 0 : in(0, 2);
                int value = kind == 0 ? aSound(reel) : kind == 1 ? in(1, 99) : in(0, 100);
                return due("cue(" + second + ", " + kind + ", " + reel + ", " + value + ")",
                        real.cue(second, kind, reel, value), model.cue(second, kind, reel, value));
            }
            case 11: {
                int cue = aCue();
                return due("takeOut(" + cue + ")", real.takeOut(cue), model.takeOut(cue));
            }
            case 12: case 13: {
                int cue = aCue();
                int second = near();
                return due("move(" + cue + ", " + second + ")", real.move(cue, second), model.move(cue, second));
            }
            case 14: case 15: {
                int goal = in(0, 100);
                return due("goal(" + reel + ", " + goal + ")", real.goal(reel, goal), model.goal(reel, goal));
            }
            case 16:
                return random.nextInt(3) != 0 || due("begin()", real.begin(), model.begin());
            default: {
                int seconds = random.nextInt(4) != 0 ? in(1, 5) : random.nextInt(3) == 0 ? in(1, 200) : in(1, 40);
                return due("pass(" + seconds + ")", real.pass(seconds), model.pass(seconds));
            }
        }
    }

    private boolean look(int which) {
        int reel = in(0, 3);
        switch (which) {
            case 0: {
                int cue = aCue();
                int what = in(0, 4);
                return due("ofCue(" + cue + ", " + what + ")", real.ofCue(cue, what), model.ofCue(cue, what));
            }
            case 1: {
                int what = in(0, 5);
                return due("ofReel(" + reel + ", " + what + ")", real.ofReel(reel, what), model.ofReel(reel, what));
            }
            case 2: {
                int sound = aSound(reel);
                int what = in(0, 3);
                return due("ofSound(" + reel + ", " + sound + ", " + what + ")", real.ofSound(reel, sound, what),
                        model.ofSound(reel, sound, what));
            }
            case 3: {
                int rank = in(0, 5);
                int what = in(0, 2);
                return due("played(" + rank + ", " + what + ")", real.played(rank, what), model.played(rank, what));
            }
            case 4: {
                int what = in(0, 2);
                return due("ofChannel(" + reel + ", " + what + ")", real.ofChannel(reel, what), model.ofChannel(reel, what));
            }
            case 5: {
                int second = in(0, Math.max(0, model.count(0)));
                return due("loud(" + second + ")", real.loud(second), model.loud(second));
            }
            default: {
                int what = in(0, 14);
                return due("count(" + what + ")", real.count(what), model.count(what));
            }
        }
    }

    private boolean whatIf(int which) {
        int cue = aCue();
        switch (which) {
            case 0: {
                int what = in(0, 4);
                return due("rest(" + what + ")", real.rest(what), model.rest(what));
            }
            case 1:
                return due("becomes(" + cue + ")", real.becomes(cue), model.becomes(cue));
            case 2:
                return due("leastWind()", real.leastWind(), model.leastWind());
            case 3: {
                int second = near();
                return due("ifMoved(" + cue + ", " + second + ")", real.ifMoved(cue, second), model.ifMoved(cue, second));
            }
            default: {
                int reel = in(0, 3);
                int sound = aSound(reel);
                return due("readyIn(" + reel + ", " + sound + ")", real.readyIn(reel, sound), model.readyIn(reel, sound));
            }
        }
    }

    private boolean textOrState(int which) {
        switch (which) {
            case 0:
                return put(oddCharacters());
            case 1:
                return due("wipe()", real.wipe(), model.wipe());
            case 2: case 3:
                return due("fault()", real.fault(), model.fault());
            case 4: case 5: case 6:
                return due("carryOut()", real.carryOut(), model.carryOut());
            case 7: case 8:
                makeText();
                return due("wipe()", real.wipe(), model.wipe());
            case 9: case 10: case 11:
                return due("undo()", real.undo(), model.undo());
            case 12: {
                int slot = in(0, 1);
                return due("save(" + slot + ")", real.save(slot), model.save(slot));
            }
            default: {
                int slot = in(0, 1);
                return due("restore(" + slot + ")", real.restore(slot), model.restore(slot));
            }
        }
    }

    private boolean put(long characters) {
        return due("put(" + characters + ")", real.put(characters), model.put(characters));
    }

    private long oddCharacters() {
        long characters = 0;
        int length = random.nextInt(9);
        for (int i = 0; i < length; i++) {
            int code = random.nextInt(12) == 0 ? random.nextInt(256) : "rsdlg0123456789:;*+=! ~".charAt(random.nextInt(23));
            characters = characters << 8 | code;
        }
        return random.nextInt(10) == 0 ? random.nextLong() : characters;
    }

    /** A text of orders, now and then with a wrong character, cut into the numbers that put() takes. */
    private void makeText() {
        StringBuilder text = new StringBuilder();
        int orders = 1 + random.nextInt(12);
        for (int i = 0; i < orders; i++) {
            text.append(i == 0 ? "" : ";").append(anOrder());
        }
        if (random.nextInt(3) == 0) {
            int at = random.nextInt(text.length());
            text.setCharAt(at, "rsdlg0123456789:;*+=!".charAt(random.nextInt(21)));
        }
        if (random.nextInt(6) == 0) {
            text.setLength(random.nextInt(text.length()) + 1);
        }
        textLeft.clear();
        for (int from = 0; from < text.length(); ) {
            int to = Math.min(text.length(), from + 1 + random.nextInt(8));
            long characters = 0;
            for (int i = from; i < to; i++) {
                characters = characters << 8 | text.charAt(i);
            }
            textLeft.addLast(characters);
            from = to;
        }
    }

    private String anOrder() {
        int reel = random.nextInt(random.nextInt(10) == 0 ? 10 : 4);
        int second = random.nextInt(8) == 0 ? random.nextInt(1100) : Math.min(999, model.count(0) + random.nextInt(horizon));
        switch (random.nextInt(5)) {
            case 0: return "r" + reel + "+" + random.nextInt(random.nextInt(8) == 0 ? 70 : 10) + "*" + random.nextInt(105);
            case 1: return "s" + second + ":" + reel + random.nextInt(3);
            case 2: return "d" + second + ":" + reel + "*" + random.nextInt(105);
            case 3: return "l" + second + ":" + reel + "=" + random.nextInt(105);
            default: return "g" + random.nextInt(12);
        }
    }
}
