/** An object at work, and what its answers are due to be. */
final class Desk {
    static int wrong = 0;

    final NineSaints x = new NineSaints();
    private final String about;

    Desk(int promise) {
        this("promise " + promise);
    }

    Desk(String about) {
        this.about = about;
    }

    static Desk with(int promise, String text, int statements) {
        Desk desk = new Desk(promise);
        desk.due("city of " + text, desk.tell(text), statements);
        return desk;
    }

    void due(String call, int got, int want) {
        if (got != want) {
            wrong++;
            System.out.println(about + ": " + call + " answered " + got + ", due is " + want);
        }
    }

    void due(String call, boolean got, boolean want) {
        due(call, got ? 1 : 0, want ? 1 : 0);
    }

    /** Puts bytes on the tape, behind those that are there. */
    void tape(int... bytes) {
        int before = x.feed(0, 0, 0, 0, 0) - 20;
        x.end(before);
        for (int i = 0; i < bytes.length; i += 20) {
            int[] n = new int[5];
            for (int k = 0; k < 20; k++) {
                n[k / 4] = n[k / 4] << 8 | (i + k < bytes.length ? bytes[i + k] : 32);
            }
            x.feed(n[0], n[1], n[2], n[3], n[4]);
        }
        x.end(before + bytes.length);
    }

    int tell(String text) {
        x.end(0);
        tape(text.chars().toArray());
        return x.city();
    }

    void fault(String text, int kind, int place) {
        due("city of " + text, tell(text), NineSaints.NONE);
        due("fault(0) of " + text, x.fault(0), kind);
        due("fault(1) of " + text, x.fault(1), place);
    }

    /** The latest image comes back with a byte changed, its sum made right again. */
    boolean backWith(int place, int value) {
        int length = x.image();
        int[] bytes = new int[length];
        int sum = 83;
        for (int k = 0; k < length; k++) {
            bytes[k] = k == place ? value : x.octet(k);
            if (k + 1 < length) {
                sum = (3 * sum + bytes[k]) % 247;
            } else if (k != place) {
                bytes[k] = sum;
            }
        }
        x.end(0);
        tape(bytes);
        return x.back();
    }
}
