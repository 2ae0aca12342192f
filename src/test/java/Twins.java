/**
 * A refused call "changes nothing": an object that got it, and a twin that did not, answer all later calls alike.
 * The same holds of a call that made a tensor and the drop of it. Both stay below the 512 calls after which answers
 * are free.
 */
final class Twins {
    interface Scene {
        void set(LazyTensorTape x);
    }

    /** A call that answers a number: mostly one that makes a handle. */
    interface MakingCall {
        int on(LazyTensorTape x);
    }

    interface SettingCall {
        boolean on(LazyTensorTape x);
    }

    private final String what;
    private final LazyTensorTape x = new LazyTensorTape();
    private final LazyTensorTape twin = new LazyTensorTape();

    private Twins(Scene scene, String what) {
        this.what = what;
        scene.set(x);
        scene.set(twin);
    }

    static void refuseToMake(String what, Scene scene, MakingCall call) {
        refuse(what, scene, call, -1);
    }

    /** A call whose answer is a number, this one if it is refused. */
    static void refuse(String what, Scene scene, MakingCall call, int answer) {
        Twins twins = new Twins(scene, what + " is refused, but changes a later answer: ");
        Check.due(what, call.on(twins.x), answer);
        twins.stayAlike();
    }

    static void refuseToSet(String what, Scene scene, SettingCall call) {
        refuse(what, scene, x -> call.on(x) ? 1 : 0, 0);
    }

    static void makeAndDrop(String what, Scene scene, MakingCall call) {
        Twins twins = new Twins(scene, what + " is made and dropped, but changes a later answer: ");
        int made = call.on(twins.x);
        Check.due(what + " is made", made >= 0, true);
        Check.due("its drop", twins.x.drop(made), true);
        twins.stayAlike();
    }

    private void stayAlike() {
        showAlike("at once");
        for (int h = 0; h < 24; h += 5) {
            alike("then put on " + h, x.put(h, 0, 100 + h) ? 1 : 0, twin.put(h, 0, 100 + h) ? 1 : 0);
        }
        showAlike("after a change");
        makeAlike();
        dropAlike();
    }

    private void showAlike(String when) {
        for (int h = 0; h < 24; h++) {
            int shape = twin.shape(h);
            alike(when + " shape of " + h, x.shape(h), shape);
            int size = shape < 0 ? 0 : Check.size(shape);
            int step = size > 8 ? 15 : 1;
            for (int i = 0; i < size; i += step) {
                alike(when + " element " + i + " of " + h, x.at(h, i), twin.at(h, i));
            }
        }
        for (int i = 0; i < 9; i++) {
            alike(when + " slope " + i, x.slope(i), twin.slope(i));
        }
        alike(when + " live", x.live(), twin.live());
    }

    /** What was lost by a refused call (a handle, room for a tensor or an element) is missing at the limits. */
    private void makeAlike() {
        for (int n = 0; n < 6; n++) {
            alike("a great leaf", x.leaf(3, 4, 4, 4), twin.leaf(3, 4, 4, 4));
        }
        for (int n = 0; n < 24; n++) {
            alike("a small leaf", x.leaf(0, 0, 0, 0), twin.leaf(0, 0, 0, 0));
        }
        alike("a view", x.expand(0, 0, 2), twin.expand(0, 0, 2));
        alike("live when full", x.live(), twin.live());
    }

    private void dropAlike() {
        for (int h = 0; h < 24; h++) {
            alike("drop of " + h, x.drop(h) ? 1 : 0, twin.drop(h) ? 1 : 0);
            alike("live after the drop of " + h, x.live(), twin.live());
        }
    }

    private void alike(String later, int got, int want) {
        Check.due(what + later, got, want);
    }
}
