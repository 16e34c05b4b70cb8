/** What the tests of the project share: answers that are due, and texts put on the tape. */
final class Check {
    private int wrong = 0;
    private int asked = 0;

    void due(String call, int got, int want) {
        asked++;
        if (got != want) {
            wrong++;
            System.out.println(call + " answered " + got + ", due is " + want);
        }
    }

    /** One call for each of several arguments' answers, told in one row. */
    void dueAll(String call, int[] got, int... want) {
        due(call + " length", got.length, want.length);
        for (int i = 0; i < Math.min(got.length, want.length); i++) {
            due(call + " [" + i + "]", got[i], want[i]);
        }
    }

    void finish(String name) {
        System.out.println(name + ": " + asked + " answers, " + wrong + " wrong");
        if (wrong != 0 || asked == 0) {
            System.exit(1);
        }
    }

    static void put(OtherDoor x, String text) {
        int had = x.count(4);
        for (int at = 0; at < text.length(); at += 8) {
            long v = 0;
            for (int i = 0; i < 8; i++) {
                v = v << 8 | (at + i < text.length() ? text.charAt(at + i) : ' ');
            }
            x.feed(v);
        }
        x.end(had + text.length());
    }

    static int tell(OtherDoor x, String text) {
        put(x, text);
        return x.palace();
    }

    /** A palace that is told by a text, which must be right. */
    static OtherDoor of(String text) {
        OtherDoor x = new OtherDoor();
        if (tell(x, text) < 0) {
            throw new IllegalArgumentException(text + ": fault " + x.fault());
        }
        return x;
    }

    private Check() {
    }

    static Check begin() {
        return new Check();
    }
}
