/** Objects that stand at different stages, for the tests of the boundaries. Each is made by some calls on a new one. */
final class Stages {
    private Stages() { }

    static void empty(RadioCues x) {
        due(x.count(14), 0);
    }

    /** Sounds and cues of each kind at second 0; the history and the slots are empty, but for one change. */
    static void written(RadioCues x) {
        due(Bounds.carriedOut(x, "r0+5*60;r0+3*90;r1+9*50;s0:00;s5:01;s5:10;d6:2*80;l3:0=99;s7:00;s9:00"), 10);
    }

    /**
     * Second 8: of seven cues four are done (a sound that plays yet, a door, a goal among them), one is missed, two are to
     * come; three changes can be undone, the slot 0 is saved, and an order stands on the pad.
     */
    static void middle(RadioCues x) {
        written(x);
        x.save(0);
        x.set(Bounds.SLAM, 5);
        due(x.pass(8), 1);
        x.cue(60, 2, 3, 7);
        Bounds.type(x, "d40:1*30;g3");
    }

    /** As middle(), but with six changes in the history, the slot 1 saved, and a cue missed as its reel was not there. */
    static void later(RadioCues x) {
        middle(x);
        x.save(1);
        x.sound(3, 9, 30);
        x.sound(3, 4, 40);
        x.cue(8, 0, 3, 1);
        due(x.pass(1), 1);
        x.goal(2, 100);
        due(x.count(14), 6);
    }

    /** The reel 0 has 6 sounds, and there are 24 cues, two of which are done at second 3. */
    static void full(RadioCues x) {
        for (int n = 0; n < 6; n++) {
            due(x.sound(0, 5 + n, 10 + n), n);
        }
        due(x.cue(0, 1, 1, 9), 0);
        due(x.cue(2, 2, 1, 90), 1);
        for (int n = 2; n < 24; n++) {
            due(x.cue(10 * n, n % 3, 0, n % 3 + n / 5), n);
        }
        due(x.pass(3), 0);
    }

    /** Second 1200, which only begin() leaves: no more can pass. One change can be undone. */
    static void late(RadioCues x) {
        due(Bounds.carriedOut(x, "d999:0*50;l999:1=10;g200;g200;g200;g200;g200;g200"), 8);
        due(x.count(0), 1200);
    }

    private static void due(int got, int want) {
        if (got != want) {
            Bounds.due("a call that sets the stage", got, want);
        }
    }
}
