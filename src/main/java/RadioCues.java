/** A mixer for radio plays. What it must do is told in the document; terms and steps bear its names here. */
public final class RadioCues {
    public static final int NO_SUCH = -1, BAD_VALUE = -2, BAD_TEXT = -3, TOO_MANY = -4, NOT_POSSIBLE = -5, NONE = -6;
    public static final int WIND = 0, SLAM = 1, FADE = 2, LOUD = 3;

    private static final int REELS = 4, CHANNELS = 4, SOUNDS = 6, CUES = 24;
    private static final int LONGEST_SOUND = 60, LOUDEST = 99, MOST_LEVEL = 100, FIRST_LEVEL = 50;
    private static final int LAST_CUE_SECOND = 999, LAST_NOW = 1200, LONGEST_PASS = 200;
    private static final int PAD_LENGTH = 80, HISTORY = 6, SLOTS = 2;

    /** The range of each setting. */
    private static final int[] LEAST_SETTING = {1, 1, 1, 10};
    private static final int[] MOST_SETTING = {20, 9, 100, 400};

    /** The kinds of cues. */
    private static final int SOUND = 0, DOOR = 1, GOAL = 2;

    /** What became of a cue. */
    private static final int TO_COME = 0, DONE = 1, REEL_PLAYED = 2, REEL_AWAY = 3;

    /** Far more seconds than the rest of a play can last: its last cue comes at 999 at the latest. */
    private static final int ENOUGH_SECONDS = 1000000;

    private Play play = new Play();
    /** Where the what-if questions let a copy of the play go on. */
    private final Play trial = new Play();
    /** The states before the latest changes, the oldest one first; those from kept on are spare, one at least. */
    private final Play[] history = new Play[HISTORY + 1];
    private int kept;
    private final Play[] slots = new Play[SLOTS];
    private final boolean[] saved = new boolean[SLOTS];
    private final Pad pad = new Pad();

    public RadioCues() {
        for (int i = 0; i < history.length; i++) {
            history[i] = new Play();
        }
        for (int i = 0; i < slots.length; i++) {
            slots[i] = new Play();
        }
    }

    // ---- changes

    public int set(int setting, int value) {
        holdState();
        return recorded(play.changeSetting(setting, value));
    }

    public int sound(int reel, int seconds, int loudness) {
        holdState();
        return recorded(play.addSound(reel, seconds, loudness));
    }

    public int cue(int second, int kind, int where, int value) {
        holdState();
        return recorded(play.addCue(second, kind, where, value));
    }

    public int takeOut(int cue) {
        holdState();
        return recorded(play.script.removeCue(cue));
    }

    public int move(int cue, int second) {
        holdState();
        return recorded(play.moveCue(cue, second));
    }

    public int goal(int channel, int goal) {
        holdState();
        return recorded(play.putGoal(channel, goal));
    }

    public int begin() {
        holdState();
        return recorded(play.beginAnew());
    }

    public int pass(int seconds) {
        holdState();
        return recorded(play.runSeconds(seconds));
    }

    // ---- what there is

    public int ofCue(int cue, int what) {
        Cue told = play.script.cueAt(cue);
        if (told == null) {
            return NO_SUCH;
        }
        switch (what) {
            case 0: return told.second;
            case 1: return told.kind;
            case 2: return told.where;
            case 3: return told.value;
            case 4: return told.fate;
            default: return BAD_VALUE;
        }
    }

    public int ofReel(int reel, int what) {
        Reel told = play.reelAt(reel);
        if (told == null) {
            return NO_SUCH;
        }
        switch (what) {
            case 0: return told.place;
            case 1: return told.playing;
            case 2: return told.left;
            case 3: return told.count;
            case 4: return told.tapeLength();
            case 5: return play.script.nextFor(reel);
            default: return BAD_VALUE;
        }
    }

    public int ofSound(int reel, int sound, int what) {
        Sound told = play.soundAt(reel, sound);
        if (told == null) {
            return NO_SUCH;
        }
        switch (what) {
            case 0: return told.seconds;
            case 1: return told.loudness;
            case 2: return told.begins;
            case 3: return told.times;
            default: return BAD_VALUE;
        }
    }

    public int played(int rank, int what) {
        if (rank < 0 || rank >= play.firstCount || rank >= play.firsts.length) {
            return NO_SUCH;
        }
        int reel = play.firsts[rank] / SOUNDS;
        int number = play.firsts[rank] % SOUNDS;
        Sound told = play.soundAt(reel, number);
        if (told == null) {
            return NO_SUCH;
        }
        switch (what) {
            case 0: return reel;
            case 1: return number;
            case 2: return told.times;
            default: return BAD_VALUE;
        }
    }

    public int ofChannel(int channel, int what) {
        Channel told = play.channelAt(channel);
        if (told == null) {
            return NO_SUCH;
        }
        switch (what) {
            case 0: return told.level;
            case 1: return told.goal;
            case 2: return play.doors.countOn(channel);
            default: return BAD_VALUE;
        }
    }

    public int loud(int second) {
        if (second < 0 || second >= play.now || second >= play.heard.length) {
            return NO_SUCH;
        }
        return play.heard[second];
    }

    public int count(int what) {
        switch (what) {
            case 0: return play.now;
            case 1: return play.script.count;
            case 2: return play.script.countOf(TO_COME);
            case 3: return play.script.countOf(DONE);
            case 4: return play.script.countOf(REEL_PLAYED);
            case 5: return play.script.countOf(REEL_AWAY);
            case 6: return play.loudestSecond();
            case 7: return play.tooLoudSeconds();
            case 8: return play.playingReels();
            case 9: return play.settings[WIND];
            case 10: return play.settings[SLAM];
            case 11: return play.settings[FADE];
            case 12: return play.settings[LOUD];
            case 13: return pad.length;
            case 14: return kept;
            default: return BAD_VALUE;
        }
    }

    // ---- what if; nothing changes

    public int rest(int what) {
        if (!within(what, 0, 4)) {
            return BAD_VALUE;
        }
        trial.copyFrom(play);
        int missedBefore = trial.script.missedCues();
        int seconds = 0;
        int loudest = NONE;
        int howLoud = 0;
        int tooLoud = 0;
        while (seconds < ENOUGH_SECONDS && trial.goesOn()) {
            int second = trial.now;
            int loudness = trial.runSecond();
            if (loudest == NONE || loudness > howLoud) {
                loudest = second;
                howLoud = loudness;
            }
            if (loudness > trial.settings[LOUD]) {
                tooLoud++;
            }
            seconds++;
        }
        switch (what) {
            case 0: return seconds;
            case 1: return trial.script.missedCues() - missedBefore;
            case 2: return loudest;
            case 3: return howLoud;
            default: return tooLoud;
        }
    }

    public int becomes(int cue) {
        trial.copyFrom(play);
        missedInTrial();
        Cue told = trial.script.cueAt(cue);
        return told == null ? NO_SUCH : told.fate;
    }

    public int leastWind() {
        // As long as no cue is missed, a reel plays in the same seconds whatever WIND is, so one that
        // winds faster is nowhere later: if a WIND misses none, every greater one misses none.
        int misses = 0;
        for (int step = 16; step > 0; step = step / 2) {
            int wind = misses + step;
            if (wind <= MOST_SETTING[WIND] && missesWith(wind)) {
                misses = wind;
            }
        }
        return misses >= MOST_SETTING[WIND] ? NONE : misses + 1;
    }

    public int ifMoved(int cue, int second) {
        trial.copyFrom(play);
        int rank = trial.moveCue(cue, second);
        return rank < 0 ? rank : missedInTrial();
    }

    public int readyIn(int reel, int sound) {
        Reel told = play.reelAt(reel);
        Sound wanted = play.soundAt(reel, sound);
        if (told == null || wanted == null) {
            return NO_SUCH;
        }
        int speed = Math.max(1, play.settings[WIND]);
        int way = Math.abs(told.place + told.left - wanted.begins);
        int winds = (way + speed - 1) / speed;
        // The last second of what it plays is the first one of winding, too.
        return told.left > 0 && winds > 0 ? told.left + winds - 1 : told.left + winds;
    }

    // ---- texts

    public int put(long characters) {
        int added = Pad.countCharacters(characters);
        if (added == 0) {
            return BAD_VALUE;
        }
        if (pad.length + added > PAD_LENGTH) {
            return TOO_MANY;
        }
        return pad.append(characters, added);
    }

    public int wipe() {
        int previous = pad.length;
        pad.length = 0;
        return previous;
    }

    public int fault() {
        return pad.findFault();
    }

    public int carryOut() {
        if (pad.findFault() != NONE) {
            return BAD_TEXT;
        }
        holdState();
        int done = 0;
        pad.at = 0;
        while (done < PAD_LENGTH && pad.readOrder() && answerOfOrder() >= 0) {
            done++;
            pad.at++;
        }
        pad.length = 0;
        return recorded(done);
    }

    // ---- undo, saving

    public int undo() {
        if (kept <= 0 || kept > history.length) {
            return NOT_POSSIBLE;
        }
        kept--;
        Play undone = play;
        play = history[kept];
        history[kept] = undone;
        return kept;
    }

    public int save(int slot) {
        if (slot < 0 || slot >= slots.length) {
            return BAD_VALUE;
        }
        slots[slot].copyFrom(play);
        saved[slot] = true;
        return play.script.count;
    }

    public int restore(int slot) {
        if (slot < 0 || slot >= slots.length) {
            return BAD_VALUE;
        }
        if (!saved[slot]) {
            return NOT_POSSIBLE;
        }
        holdState();
        play.copyFrom(slots[slot]);
        return recorded(play.script.count);
    }

    // ---- what the calls rest on

    private static boolean within(int value, int least, int most) {
        return value >= least && value <= most;
    }

    /** Goes so many steps from a place nearer to another one, but not beyond. */
    private static int nearer(int from, int to, int steps) {
        return from < to ? Math.min(to, from + steps) : Math.max(to, from - steps);
    }

    /** Copies the state into the spare one, ahead of what may become a change. */
    private void holdState() {
        if (kept >= 0 && kept < history.length) {
            history[kept].copyFrom(play);
        }
    }

    /** Records the state that is held, if the answer is not an error, and passes the answer on. */
    private int recorded(int answer) {
        if (answer < 0) {
            return answer;
        }
        kept++;
        if (kept > HISTORY) {
            dropOldestState();
        }
        return answer;
    }

    private void dropOldestState() {
        Play spare = history[0];
        for (int i = 1; i < history.length; i++) {
            history[i - 1] = history[i];
        }
        history[history.length - 1] = spare;
        kept = HISTORY;
    }

    /** Lets the trial go on until no cue is to come, and tells how many are missed in that. */
    private int missedInTrial() {
        int before = trial.script.missedCues();
        for (int i = 0; i < ENOUGH_SECONDS && trial.script.anyToCome(); i++) {
            trial.runSecond();
        }
        return trial.script.missedCues() - before;
    }

    private boolean missesWith(int wind) {
        trial.copyFrom(play);
        trial.settings[WIND] = wind;
        return missedInTrial() > 0;
    }

    /** Carries the order out that the pad has read, and passes on what the call answers. */
    private int answerOfOrder() {
        int[] numbers = pad.numbers;
        if (pad.letter == 'r') {
            return play.addSound(numbers[0], numbers[1], numbers[2]);
        }
        if (pad.letter == 's') {
            return play.addCue(numbers[0], SOUND, numbers[1], numbers[2]);
        }
        if (pad.letter == 'd') {
            return play.addCue(numbers[0], DOOR, numbers[1], numbers[2]);
        }
        if (pad.letter == 'l') {
            return play.addCue(numbers[0], GOAL, numbers[1], numbers[2]);
        }
        return play.runSeconds(numbers[0]);
    }

    /**
     * All that undo and the slots keep. Its rows are made once, and states are copied into each other.
     * Its changes answer as the calls of the face do, and change nothing if that is an error.
     */
    private static final class Play {
        final int[] settings = {4, 2, 10, 150};
        final Script script = new Script();
        final Reel[] reels = new Reel[REELS];
        final Channel[] channels = new Channel[CHANNELS];
        final Doors doors = new Doors();
        /** The sounds that were played, in the order of their first times: each as its reel * SOUNDS + its number. */
        final int[] firsts = new int[REELS * SOUNDS];
        int firstCount;
        /** How loud it was in each second that is over. */
        final int[] heard = new int[LAST_NOW];
        int now;

        Play() {
            for (int i = 0; i < reels.length; i++) {
                reels[i] = new Reel();
            }
            for (int i = 0; i < channels.length; i++) {
                channels[i] = new Channel();
            }
        }

        void copyFrom(Play other) {
            System.arraycopy(other.settings, 0, settings, 0, settings.length);
            script.copyFrom(other.script);
            for (int i = 0; i < reels.length; i++) {
                reels[i].copyFrom(other.reels[i]);
            }
            for (int i = 0; i < channels.length; i++) {
                channels[i].level = other.channels[i].level;
                channels[i].goal = other.channels[i].goal;
            }
            doors.copyFrom(other.doors);
            System.arraycopy(other.firsts, 0, firsts, 0, firsts.length);
            firstCount = other.firstCount;
            System.arraycopy(other.heard, 0, heard, 0, other.secondsHeard());
            now = other.now;
        }

        int changeSetting(int setting, int value) {
            if (setting < 0 || setting >= settings.length || setting >= LEAST_SETTING.length) {
                return BAD_VALUE;
            }
            if (setting >= MOST_SETTING.length || !within(value, LEAST_SETTING[setting], MOST_SETTING[setting])) {
                return BAD_VALUE;
            }
            int previous = settings[setting];
            settings[setting] = value;
            return previous;
        }

        int addSound(int reel, int seconds, int loudness) {
            Reel told = reelAt(reel);
            if (told == null) {
                return NO_SUCH;
            }
            if (!within(seconds, 1, LONGEST_SOUND) || !within(loudness, 1, LOUDEST)) {
                return BAD_VALUE;
            }
            return told.appendSound(seconds, loudness);
        }

        int addCue(int second, int kind, int where, int value) {
            if (!within(second, 0, LAST_CUE_SECOND) || !within(kind, SOUND, GOAL)) {
                return BAD_VALUE;
            }
            if (!within(where, 0, CHANNELS - 1) || kind == SOUND && soundAt(where, value) == null) {
                return NO_SUCH;
            }
            if (kind == DOOR && !within(value, 1, LOUDEST) || kind == GOAL && !within(value, 0, MOST_LEVEL)) {
                return BAD_VALUE;
            }
            if (second < now) {
                return NOT_POSSIBLE;
            }
            return script.insertCue(second, kind, where, value);
        }

        int moveCue(int cue, int second) {
            Cue told = script.cueAt(cue);
            if (told == null) {
                return NO_SUCH;
            }
            if (!within(second, 0, LAST_CUE_SECOND)) {
                return BAD_VALUE;
            }
            if (told.fate != TO_COME || second < now) {
                return NOT_POSSIBLE;
            }
            script.makeLast(cue);
            told.second = second;
            return script.sortLast();
        }

        int putGoal(int channel, int goal) {
            Channel told = channelAt(channel);
            if (told == null) {
                return NO_SUCH;
            }
            if (!within(goal, 0, MOST_LEVEL)) {
                return BAD_VALUE;
            }
            int previous = told.goal;
            told.goal = goal;
            return previous;
        }

        int beginAnew() {
            int previous = now;
            now = 0;
            script.letAllCome();
            for (int i = 0; i < reels.length; i++) {
                reels[i].rewind();
            }
            for (int i = 0; i < channels.length; i++) {
                channels[i].level = FIRST_LEVEL;
                channels[i].goal = FIRST_LEVEL;
            }
            doors.count = 0;
            firstCount = 0;
            return previous;
        }

        int runSeconds(int seconds) {
            if (!within(seconds, 1, LONGEST_PASS)) {
                return BAD_VALUE;
            }
            if (now + seconds > LAST_NOW) {
                return NOT_POSSIBLE;
            }
            int before = script.missedCues();
            for (int i = 0; i < seconds; i++) {
                runSecond();
            }
            return script.missedCues() - before;
        }

        /** The reel, or null if there is no such one. */
        Reel reelAt(int reel) {
            return reel < 0 || reel >= reels.length ? null : reels[reel];
        }

        /** The sound, or null if there is no such reel or sound. */
        Sound soundAt(int reel, int sound) {
            Reel told = reelAt(reel);
            return told == null ? null : told.soundNumbered(sound);
        }

        /** The channel, or null if there is no such one. */
        Channel channelAt(int channel) {
            return channel < 0 || channel >= channels.length ? null : channels[channel];
        }

        /** Lets one second pass, by its five steps, and tells how loud it was; LAST_NOW does not matter here. */
        int runSecond() {
            letCuesCome();
            for (int i = 0; i < channels.length; i++) {
                channels[i].fade(settings[FADE]);
            }
            int loudness = loudnessOfReels() + loudnessOfDoors();
            for (int i = 0; i < reels.length; i++) {
                reels[i].playSecond();
            }
            doors.hearSecond();
            windReels();
            if (now >= 0 && now < heard.length) {
                heard[now] = loudness;
            }
            now++;
            return loudness;
        }

        void letCuesCome() {
            for (int rank = script.came; rank < script.count; rank++) {
                Cue cue = script.cueAt(rank);
                if (cue == null || cue.second > now) {
                    return;
                }
                script.came = rank + 1;
                cue.fate = DONE;
                if (cue.kind == SOUND) {
                    cue.fate = callSound(cue.where, cue.value);
                } else if (cue.kind == DOOR) {
                    doors.slam(cue.where, cue.value, settings[SLAM]);
                } else {
                    putGoal(cue.where, cue.value);
                }
            }
        }

        /** Plays a sound if its reel is free and there, and tells what becomes of the cue. */
        int callSound(int reel, int sound) {
            Reel called = reelAt(reel);
            if (called == null) {
                return REEL_AWAY;
            }
            if (called.playing != NONE) {
                return REEL_PLAYED;
            }
            Sound wanted = called.soundNumbered(sound);
            if (wanted == null || called.place != wanted.begins) {
                return REEL_AWAY;
            }
            called.playing = sound;
            called.left = wanted.seconds;
            if (wanted.times == 0 && firstCount >= 0 && firstCount < firsts.length) {
                firsts[firstCount] = reel * SOUNDS + sound;
                firstCount++;
            }
            wanted.times++;
            return DONE;
        }

        int loudnessOfReels() {
            int loudness = 0;
            for (int i = 0; i < reels.length; i++) {
                Sound sound = reels[i].soundNumbered(reels[i].playing);
                if (sound != null) {
                    loudness += heardOn(i, sound.loudness);
                }
            }
            return loudness;
        }

        int loudnessOfDoors() {
            int loudness = 0;
            for (int i = 0; i < doors.count && i < CUES; i++) {
                loudness += heardOn(doors.channel[i], doors.loudness[i]);
            }
            return loudness;
        }

        /** What one sound or door gives on its channel. */
        int heardOn(int channel, int loudness) {
            Channel told = channelAt(channel);
            return told == null ? 0 : loudness * told.level / FIRST_LEVEL;
        }

        void windReels() {
            for (int i = 0; i < reels.length; i++) {
                if (reels[i].playing == NONE) {
                    Cue next = script.cueAt(script.nextFor(i));
                    Sound wanted = next == null ? null : reels[i].soundNumbered(next.value);
                    if (wanted != null) {
                        reels[i].place = nearer(reels[i].place, wanted.begins, settings[WIND]);
                    }
                }
            }
        }

        boolean goesOn() {
            return script.anyToCome() || doors.count > 0 || playingReels() != 0;
        }

        int playingReels() {
            int set = 0;
            for (int i = 0; i < reels.length; i++) {
                if (reels[i].playing != NONE) {
                    set |= 1 << i;
                }
            }
            return set;
        }

        int loudestSecond() {
            int loudest = NONE;
            int howLoud = 0;
            for (int i = 0; i < now && i < heard.length; i++) {
                if (loudest == NONE || heard[i] > howLoud) {
                    loudest = i;
                    howLoud = heard[i];
                }
            }
            return loudest;
        }

        int tooLoudSeconds() {
            int seconds = 0;
            for (int i = 0; i < now && i < heard.length; i++) {
                if (heard[i] > settings[LOUD]) {
                    seconds++;
                }
            }
            return seconds;
        }

        int secondsHeard() {
            return Math.max(0, Math.min(now, heard.length));
        }
    }

    private static final class Cue {
        int second, kind, where, value, fate;

        void copyFrom(Cue other) {
            second = other.second;
            kind = other.kind;
            where = other.where;
            value = other.value;
            fate = other.fate;
        }
    }

    /** The cues, sorted; those from count on are spare. */
    private static final class Script {
        final Cue[] cues = new Cue[CUES];
        int count;
        /** How many came. No cue is put ahead of the second now, so they all stand ahead of those to come. */
        int came;

        Script() {
            for (int i = 0; i < cues.length; i++) {
                cues[i] = new Cue();
            }
        }

        void copyFrom(Script other) {
            count = other.count;
            came = other.came;
            for (int i = 0; i < count && i < cues.length; i++) {
                cues[i].copyFrom(other.cues[i]);
            }
        }

        void letAllCome() {
            came = 0;
            for (int i = 0; i < count && i < cues.length; i++) {
                cues[i].fate = TO_COME;
            }
        }

        /** The cue, or null if there is no such one. */
        Cue cueAt(int rank) {
            return rank < 0 || rank >= count || rank >= cues.length ? null : cues[rank];
        }

        boolean anyToCome() {
            return came < count;
        }

        /** Puts a cue behind the others of its second, and tells its rank. */
        int insertCue(int second, int kind, int where, int value) {
            if (count < 0 || count >= cues.length) {
                return TOO_MANY;
            }
            Cue cue = cues[count];
            cue.second = second;
            cue.kind = kind;
            cue.where = where;
            cue.value = value;
            cue.fate = TO_COME;
            count++;
            return sortLast();
        }

        /** Takes a cue out, and tells how many are left. */
        int removeCue(int rank) {
            Cue cue = cueAt(rank);
            if (cue == null) {
                return NO_SUCH;
            }
            if (cue.fate != TO_COME) {
                return NOT_POSSIBLE;
            }
            makeLast(rank);
            count--;
            return count;
        }

        /** Puts a cue behind all others. */
        void makeLast(int rank) {
            Cue cue = cueAt(rank);
            for (int i = Math.max(0, rank) + 1; i < count && i < cues.length; i++) {
                cues[i - 1] = cues[i];
                cues[i] = cue;
            }
        }

        /** Puts the last cue where it belongs, and tells its rank there. */
        int sortLast() {
            int rank = count - 1;
            Cue cue = cueAt(rank);
            if (cue == null) {
                return NO_SUCH;
            }
            while (rank > 0 && cues[rank - 1].second > cue.second) {
                cues[rank] = cues[rank - 1];
                rank--;
            }
            cues[rank] = cue;
            return rank;
        }

        /** The rank of the first cue to come that calls a sound of a reel, or NONE. */
        int nextFor(int reel) {
            for (int i = Math.max(0, came); i < count && i < cues.length; i++) {
                if (cues[i].kind == SOUND && cues[i].where == reel) {
                    return i;
                }
            }
            return NONE;
        }

        int countOf(int fate) {
            int found = 0;
            for (int i = 0; i < count && i < cues.length; i++) {
                if (cues[i].fate == fate) {
                    found++;
                }
            }
            return found;
        }

        int missedCues() {
            return countOf(REEL_PLAYED) + countOf(REEL_AWAY);
        }
    }

    private static final class Sound {
        int seconds, loudness, begins;
        /** How often it was played since the play began. */
        int times;

        void copyFrom(Sound other) {
            seconds = other.seconds;
            loudness = other.loudness;
            begins = other.begins;
            times = other.times;
        }
    }

    /** A reel with its tape; the sounds from count on are spare. */
    private static final class Reel {
        final Sound[] sounds = new Sound[SOUNDS];
        int count;
        int place;
        /** The number of the sound that it plays, or NONE, and how many seconds of it are left. */
        int playing = NONE;
        int left;

        Reel() {
            for (int i = 0; i < sounds.length; i++) {
                sounds[i] = new Sound();
            }
        }

        void copyFrom(Reel other) {
            count = other.count;
            place = other.place;
            playing = other.playing;
            left = other.left;
            for (int i = 0; i < count && i < sounds.length; i++) {
                sounds[i].copyFrom(other.sounds[i]);
            }
        }

        /** Stands at the beginning, as if nothing was played. */
        void rewind() {
            place = 0;
            playing = NONE;
            left = 0;
            for (int i = 0; i < count && i < sounds.length; i++) {
                sounds[i].times = 0;
            }
        }

        /** The sound, or null if there is no such one. */
        Sound soundNumbered(int number) {
            return number < 0 || number >= count || number >= sounds.length ? null : sounds[number];
        }

        int tapeLength() {
            Sound last = soundNumbered(count - 1);
            return last == null ? 0 : last.begins + last.seconds;
        }

        /** Puts a sound at the end of the tape, and tells its number. */
        int appendSound(int seconds, int loudness) {
            if (count < 0 || count >= sounds.length) {
                return TOO_MANY;
            }
            Sound sound = sounds[count];
            sound.begins = tapeLength();
            sound.seconds = seconds;
            sound.loudness = loudness;
            sound.times = 0;
            count++;
            return count - 1;
        }

        void playSecond() {
            if (playing == NONE) {
                return;
            }
            place++;
            left--;
            if (left <= 0) {
                playing = NONE;
            }
        }
    }

    private static final class Channel {
        int level = FIRST_LEVEL, goal = FIRST_LEVEL;

        void fade(int steps) {
            level = nearer(level, goal, steps);
        }
    }

    /** The doors that are heard. A cue that slammed one stays in the script, so there are no more doors than CUES. */
    private static final class Doors {
        final int[] channel = new int[CUES];
        final int[] loudness = new int[CUES];
        final int[] left = new int[CUES];
        int count;

        void copyFrom(Doors other) {
            count = other.count;
            System.arraycopy(other.channel, 0, channel, 0, channel.length);
            System.arraycopy(other.loudness, 0, loudness, 0, loudness.length);
            System.arraycopy(other.left, 0, left, 0, left.length);
        }

        void slam(int where, int howLoud, int seconds) {
            if (count >= 0 && count < CUES) {
                channel[count] = where;
                loudness[count] = howLoud;
                left[count] = seconds;
                count++;
            }
        }

        /** Each door is heard for one second less. */
        void hearSecond() {
            int still = 0;
            for (int i = 0; i < count && i < CUES; i++) {
                if (left[i] > 1) {
                    channel[still] = channel[i];
                    loudness[still] = loudness[i];
                    left[still] = left[i] - 1;
                    still++;
                }
            }
            count = still;
        }

        int countOn(int where) {
            int found = 0;
            for (int i = 0; i < count && i < CUES; i++) {
                if (channel[i] == where) {
                    found++;
                }
            }
            return found;
        }
    }

    /** The text, and what reads it from left to right. */
    private static final class Pad {
        final char[] characters = new char[PAD_LENGTH];
        int length;
        /** The index of the character that is read next. */
        int at;
        /** The order that was read last: its letter, and its numbers and digits as they came. */
        char letter;
        final int[] numbers = new int[3];
        int numberCount;

        /** How many characters a long holds; 0 if it does not hold 1 to 8, each of them 33 to 126. */
        static int countCharacters(long packed) {
            int found = 0;
            long above = packed;
            for (int i = 0; i < 8 && above != 0; i++) {
                int code = (int) (above & 255);
                if (code < 33 || code > 126) {
                    return 0;
                }
                found++;
                above = above >>> 8;
            }
            return found;
        }

        /** Appends so many characters, and tells the length then. */
        int append(long packed, int added) {
            for (int i = added - 1; i >= 0; i--) {
                if (length >= 0 && length < characters.length) {
                    characters[length] = (char) (packed >>> (8 * i) & 255);
                    length++;
                }
            }
            return length;
        }

        /** The index of the first character that cannot stand at its place, or NONE. */
        int findFault() {
            at = 0;
            for (int i = 0; i < PAD_LENGTH && readOrder(); i++) {
                if (at == length) {
                    return NONE;
                }
                if (characterAt(at) != ';') {
                    return at;
                }
                at++;
            }
            return at;
        }

        /** Reads an order, and says whether there is one; if not, it stops where the fault is. */
        boolean readOrder() {
            letter = characterAt(at);
            String shape = shapeOf(letter);
            if (shape.isEmpty()) {
                return false;
            }
            at++;
            numberCount = 0;
            for (int i = 0; i < shape.length(); i++) {
                if (!readPart(shape.charAt(i))) {
                    return false;
                }
            }
            return true;
        }

        /** What follows the letter of an order: D is a digit, N a number, any other sign itself. */
        static String shapeOf(char letter) {
            if (letter == 'r') {
                return "D+N*N";
            }
            if (letter == 's') {
                return "N:DD";
            }
            if (letter == 'd') {
                return "N:D*N";
            }
            if (letter == 'l') {
                return "N:D=N";
            }
            return letter == 'g' ? "N" : "";
        }

        boolean readPart(char part) {
            if (part == 'D') {
                return readNumber(1);
            }
            if (part == 'N') {
                return readNumber(3);
            }
            if (characterAt(at) != part) {
                return false;
            }
            at++;
            return true;
        }

        /** Reads a number without leading zeros, of so many digits at the most. */
        boolean readNumber(int digits) {
            int number = digitAt(at);
            if (number < 0) {
                return false;
            }
            at++;
            for (int i = 1; i < digits && number > 0 && digitAt(at) >= 0; i++) {
                number = number * 10 + digitAt(at);
                at++;
            }
            if (numberCount >= 0 && numberCount < numbers.length) {
                numbers[numberCount] = number;
                numberCount++;
            }
            return true;
        }

        /** The digit at an index, or -1 if none stands there. */
        int digitAt(int index) {
            char sign = characterAt(index);
            return sign >= '0' && sign <= '9' ? sign - '0' : -1;
        }

        /** The character at an index, or the sign 0, which no text holds, where the text ends. */
        char characterAt(int index) {
            return index < 0 || index >= length || index >= characters.length ? (char) 0 : characters[index];
        }
    }
}
