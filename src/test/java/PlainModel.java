import java.util.ArrayDeque;
import java.util.ArrayList;
import java.util.Deque;
import java.util.LinkedHashMap;
import java.util.List;
import java.util.Map;
import java.util.regex.Matcher;
import java.util.regex.Pattern;

/**
 * The document once more, as plainly as Java's library allows and by other means than the class: times are kept as
 * seconds at which something ends, what-ifs are tried one by one, texts are judged by a pattern. Slow on purpose.
 */
final class PlainModel {
    static final int NO_SUCH = -1, BAD_VALUE = -2, BAD_TEXT = -3, TOO_MANY = -4, NOT_POSSIBLE = -5, NONE = -6;
    private static final String NUMBER = "(0|[1-9][0-9]?[0-9]?)";
    private static final String ORDER = "(r[0-9]\\+N\\*N|sN:[0-9][0-9]|dN:[0-9]\\*N|lN:[0-9]=N|gN)".replace("N", NUMBER);
    private static final Pattern TEXT = Pattern.compile(ORDER + "(;" + ORDER + ")*");

    private record Tone(int seconds, int loudness) { }

    private record Door(int channel, int loudness, int silentFrom) { }

    private static final class Call {
        int second, kind, where, value, fate;

        Call copy() {
            Call c = new Call();
            c.second = second;
            c.kind = kind;
            c.where = where;
            c.value = value;
            c.fate = fate;
            return c;
        }
    }

    private static final class State {
        int[] settings = {4, 2, 10, 150};
        int now;
        List<List<Tone>> tapes = new ArrayList<>();
        int[] place = new int[4];
        /** The sound that plays, and the second from which it does not play any more. */
        int[] sound = {-1, -1, -1, -1};
        int[] freeFrom = new int[4];
        int[] level = {50, 50, 50, 50};
        int[] goal = {50, 50, 50, 50};
        List<Call> calls = new ArrayList<>();
        List<Door> doors = new ArrayList<>();
        List<Integer> heard = new ArrayList<>();
        Map<List<Integer>, Integer> times = new LinkedHashMap<>();

        State() {
            for (int i = 0; i < 4; i++) {
                tapes.add(new ArrayList<>());
            }
        }

        State copy() {
            State s = new State();
            s.settings = settings.clone();
            s.now = now;
            for (int i = 0; i < 4; i++) {
                s.tapes.get(i).addAll(tapes.get(i));
            }
            s.place = place.clone();
            s.sound = sound.clone();
            s.freeFrom = freeFrom.clone();
            s.level = level.clone();
            s.goal = goal.clone();
            for (Call c : calls) {
                s.calls.add(c.copy());
            }
            s.doors.addAll(doors);
            s.heard.addAll(heard);
            s.times.putAll(times);
            return s;
        }

        int start(int reel, int number) {
            return tapes.get(reel).subList(0, number).stream().mapToInt(Tone::seconds).sum();
        }

        boolean plays(int reel) {
            return sound[reel] >= 0;
        }

        int fated(int fate) {
            return (int) calls.stream().filter(c -> c.fate == fate).count();
        }

        int missed() {
            return fated(2) + fated(3);
        }

        boolean goesOn() {
            return fated(0) > 0 || !doors.isEmpty() || plays(0) || plays(1) || plays(2) || plays(3);
        }

        void sort() {
            calls.sort((a, b) -> Integer.compare(a.second, b.second));
        }

        void second() {
            for (Call c : calls) {
                if (c.fate == 0 && c.second == now) {
                    come(c);
                }
            }
            int sum = 0;
            for (int i = 0; i < 4; i++) {
                int far = goal[i] - level[i];
                level[i] += Integer.signum(far) * Math.min(Math.abs(far), settings[2]);
                if (plays(i)) {
                    sum += tapes.get(i).get(sound[i]).loudness() * level[i] / 50;
                    place[i]++;
                }
            }
            for (Door d : doors) {
                sum += d.loudness() * level[d.channel()] / 50;
            }
            heard.add(sum);
            doors.removeIf(d -> d.silentFrom() <= now + 1);
            for (int i = 0; i < 4; i++) {
                if (freeFrom[i] <= now + 1) {
                    sound[i] = -1;
                }
                int next = next(i);
                if (!plays(i) && next >= 0) {
                    int to = start(i, calls.get(next).value);
                    for (int step = 0; step < settings[0] && place[i] != to; step++) {
                        place[i] += to > place[i] ? 1 : -1;
                    }
                }
            }
            now++;
        }

        void come(Call c) {
            c.fate = 1;
            if (c.kind == 2) {
                goal[c.where] = c.value;
            } else if (c.kind == 1) {
                doors.add(new Door(c.where, c.value, now + settings[1]));
            } else if (plays(c.where)) {
                c.fate = 2;
            } else if (place[c.where] != start(c.where, c.value)) {
                c.fate = 3;
            } else {
                sound[c.where] = c.value;
                freeFrom[c.where] = now + tapes.get(c.where).get(c.value).seconds();
                times.merge(List.of(c.where, c.value), 1, Integer::sum);
            }
        }

        int next(int reel) {
            for (int i = 0; i < calls.size(); i++) {
                Call c = calls.get(i);
                if (c.fate == 0 && c.kind == 0 && c.where == reel) {
                    return i;
                }
            }
            return NONE;
        }

        int loudest(int from) {
            int best = NONE;
            for (int i = from; i < heard.size(); i++) {
                if (best == NONE || heard.get(i) > heard.get(best)) {
                    best = i;
                }
            }
            return best;
        }

        int tooLoud(int from) {
            return (int) heard.subList(from, heard.size()).stream().filter(v -> v > settings[3]).count();
        }

        State atEnd() {
            State s = copy();
            while (s.goesOn()) {
                s.second();
            }
            return s;
        }
    }

    private State s = new State();
    private final Deque<State> past = new ArrayDeque<>();
    private final State[] slots = new State[2];
    private String pad = "";

    private static boolean out(int value, int least, int most) {
        return value < least || value > most;
    }

    /** Records the state before a change, if the answer is not an error. */
    private int changed(State before, int answer) {
        if (answer >= 0) {
            past.addLast(before);
            if (past.size() > 6) {
                past.removeFirst();
            }
        }
        return answer;
    }

    int set(int setting, int value) {
        int[] least = {1, 1, 1, 10};
        int[] most = {20, 9, 100, 400};
        if (out(setting, 0, 3) || out(value, least[setting], most[setting])) {
            return BAD_VALUE;
        }
        State before = s.copy();
        int answer = s.settings[setting];
        s.settings[setting] = value;
        return changed(before, answer);
    }

    int sound(int reel, int seconds, int loudness) {
        return changed(s.copy(), soundIn(reel, seconds, loudness));
    }

    private int soundIn(int reel, int seconds, int loudness) {
        if (out(reel, 0, 3)) {
            return NO_SUCH;
        }
        if (out(seconds, 1, 60) || out(loudness, 1, 99)) {
            return BAD_VALUE;
        }
        List<Tone> tape = s.tapes.get(reel);
        if (tape.size() == 6) {
            return TOO_MANY;
        }
        tape.add(new Tone(seconds, loudness));
        return tape.size() - 1;
    }

    int cue(int second, int kind, int where, int value) {
        return changed(s.copy(), cueIn(second, kind, where, value));
    }

    private int cueIn(int second, int kind, int where, int value) {
        if (out(second, 0, 999) || out(kind, 0, 2)) {
            return BAD_VALUE;
        }
        if (out(where, 0, 3) || kind == 0 && out(value, 0, s.tapes.get(where).size() - 1)) {
            return NO_SUCH;
        }
        if (kind == 1 && out(value, 1, 99) || kind == 2 && out(value, 0, 100)) {
            return BAD_VALUE;
        }
        if (second < s.now) {
            return NOT_POSSIBLE;
        }
        if (s.calls.size() == 24) {
            return TOO_MANY;
        }
        Call c = new Call();
        c.second = second;
        c.kind = kind;
        c.where = where;
        c.value = value;
        s.calls.add(c);
        s.sort();
        return s.calls.indexOf(c);
    }

    int takeOut(int cue) {
        if (out(cue, 0, s.calls.size() - 1)) {
            return NO_SUCH;
        }
        if (s.calls.get(cue).fate != 0) {
            return NOT_POSSIBLE;
        }
        State before = s.copy();
        s.calls.remove(cue);
        return changed(before, s.calls.size());
    }

    int move(int cue, int second) {
        return changed(s.copy(), moveIn(s, cue, second));
    }

    private static int moveIn(State s, int cue, int second) {
        if (out(cue, 0, s.calls.size() - 1)) {
            return NO_SUCH;
        }
        if (out(second, 0, 999)) {
            return BAD_VALUE;
        }
        if (s.calls.get(cue).fate != 0 || second < s.now) {
            return NOT_POSSIBLE;
        }
        Call c = s.calls.remove(cue);
        c.second = second;
        s.calls.add(c);
        s.sort();
        return s.calls.indexOf(c);
    }

    int goal(int channel, int goal) {
        if (out(channel, 0, 3)) {
            return NO_SUCH;
        }
        if (out(goal, 0, 100)) {
            return BAD_VALUE;
        }
        State before = s.copy();
        int answer = s.goal[channel];
        s.goal[channel] = goal;
        return changed(before, answer);
    }

    int begin() {
        State before = s.copy();
        State fresh = new State();
        fresh.settings = s.settings;
        fresh.tapes = s.tapes;
        fresh.calls = s.calls;
        fresh.calls.forEach(c -> c.fate = 0);
        s = fresh;
        return changed(before, before.now);
    }

    int pass(int seconds) {
        return changed(s.copy(), passIn(seconds));
    }

    private int passIn(int seconds) {
        if (out(seconds, 1, 200)) {
            return BAD_VALUE;
        }
        if (s.now + seconds > 1200) {
            return NOT_POSSIBLE;
        }
        int before = s.missed();
        for (int i = 0; i < seconds; i++) {
            s.second();
        }
        return s.missed() - before;
    }

    private static int pick(int what, int... of) {
        return out(what, 0, of.length - 1) ? BAD_VALUE : of[what];
    }

    int ofCue(int cue, int what) {
        if (out(cue, 0, s.calls.size() - 1)) {
            return NO_SUCH;
        }
        Call c = s.calls.get(cue);
        return pick(what, c.second, c.kind, c.where, c.value, c.fate);
    }

    int ofReel(int reel, int what) {
        if (out(reel, 0, 3)) {
            return NO_SUCH;
        }
        int sounds = s.tapes.get(reel).size();
        return pick(what, s.place[reel], s.plays(reel) ? s.sound[reel] : NONE,
                s.plays(reel) ? s.freeFrom[reel] - s.now : 0, sounds, s.start(reel, sounds), s.next(reel));
    }

    int ofSound(int reel, int sound, int what) {
        if (out(reel, 0, 3) || out(sound, 0, s.tapes.get(reel).size() - 1)) {
            return NO_SUCH;
        }
        Tone t = s.tapes.get(reel).get(sound);
        return pick(what, t.seconds(), t.loudness(), s.start(reel, sound), s.times.getOrDefault(List.of(reel, sound), 0));
    }

    int played(int rank, int what) {
        List<List<Integer>> order = new ArrayList<>(s.times.keySet());
        if (out(rank, 0, order.size() - 1)) {
            return NO_SUCH;
        }
        return pick(what, order.get(rank).get(0), order.get(rank).get(1), s.times.get(order.get(rank)));
    }

    int ofChannel(int channel, int what) {
        if (out(channel, 0, 3)) {
            return NO_SUCH;
        }
        return pick(what, s.level[channel], s.goal[channel],
                (int) s.doors.stream().filter(d -> d.channel() == channel).count());
    }

    int loud(int second) {
        return out(second, 0, s.now - 1) ? NO_SUCH : s.heard.get(second);
    }

    int count(int what) {
        int set = 0;
        for (int i = 0; i < 4; i++) {
            set += s.plays(i) ? 1 << i : 0;
        }
        return pick(what, s.now, s.calls.size(), s.fated(0), s.fated(1), s.fated(2), s.fated(3), s.loudest(0),
                s.tooLoud(0), set, s.settings[0], s.settings[1], s.settings[2], s.settings[3], pad.length(), past.size());
    }

    int rest(int what) {
        State end = s.atEnd();
        int loudest = end.loudest(s.now);
        return pick(what, end.now - s.now, end.missed() - s.missed(), loudest, loudest == NONE ? 0 : end.heard.get(loudest),
                end.tooLoud(s.now));
    }

    int becomes(int cue) {
        return out(cue, 0, s.calls.size() - 1) ? NO_SUCH : s.atEnd().calls.get(cue).fate;
    }

    int leastWind() {
        for (int wind = 1; wind <= 20; wind++) {
            State tried = s.copy();
            tried.settings[0] = wind;
            if (tried.atEnd().missed() == s.missed()) {
                return wind;
            }
        }
        return NONE;
    }

    int ifMoved(int cue, int second) {
        State tried = s.copy();
        int rank = moveIn(tried, cue, second);
        return rank < 0 ? rank : tried.atEnd().missed() - s.missed();
    }

    int readyIn(int reel, int sound) {
        if (out(reel, 0, 3) || out(sound, 0, s.tapes.get(reel).size() - 1)) {
            return NO_SUCH;
        }
        State tried = s.copy();
        tried.calls.clear();
        Call far = new Call();
        far.second = Integer.MAX_VALUE;
        far.where = reel;
        far.value = sound;
        tried.calls.add(far);
        while (tried.plays(reel) || tried.place[reel] != tried.start(reel, sound)) {
            tried.second();
        }
        return tried.now - s.now;
    }

    int put(long characters) {
        StringBuilder added = new StringBuilder();
        for (long rest = characters; rest != 0; rest >>>= 8) {
            added.insert(0, (char) (rest & 255));
        }
        String text = added.toString();
        if (text.isEmpty() || text.chars().anyMatch(c -> c < 33 || c > 126)) {
            return BAD_VALUE;
        }
        if (pad.length() + text.length() > 80) {
            return TOO_MANY;
        }
        pad += text;
        return pad.length();
    }

    int wipe() {
        int answer = pad.length();
        pad = "";
        return answer;
    }

    int fault() {
        for (int end = 1; end <= pad.length(); end++) {
            Matcher m = TEXT.matcher(pad.substring(0, end));
            if (!m.matches() && !m.hitEnd()) {
                return end - 1;
            }
        }
        return TEXT.matcher(pad).matches() ? NONE : pad.length();
    }

    int carryOut() {
        if (fault() != NONE) {
            return BAD_TEXT;
        }
        State before = s.copy();
        int done = 0;
        for (String order : pad.split(";")) {
            String[] parts = order.substring(1).split("[:+*=]");
            int first = Integer.parseInt(parts[0]);
            int answer = switch (order.charAt(0)) {
                case 'r' -> soundIn(first, Integer.parseInt(parts[1]), Integer.parseInt(parts[2]));
                case 's' -> cueIn(first, 0, parts[1].charAt(0) - '0', parts[1].charAt(1) - '0');
                case 'd' -> cueIn(first, 1, Integer.parseInt(parts[1]), Integer.parseInt(parts[2]));
                case 'l' -> cueIn(first, 2, Integer.parseInt(parts[1]), Integer.parseInt(parts[2]));
                default -> passIn(first);
            };
            if (answer < 0) {
                break;
            }
            done++;
        }
        pad = "";
        return changed(before, done);
    }

    int undo() {
        if (past.isEmpty()) {
            return NOT_POSSIBLE;
        }
        s = past.removeLast();
        return past.size();
    }

    int save(int slot) {
        if (out(slot, 0, 1)) {
            return BAD_VALUE;
        }
        slots[slot] = s.copy();
        return s.calls.size();
    }

    int restore(int slot) {
        if (out(slot, 0, 1)) {
            return BAD_VALUE;
        }
        if (slots[slot] == null) {
            return NOT_POSSIBLE;
        }
        State before = s;
        s = slots[slot].copy();
        return changed(before, s.calls.size());
    }
}
