/** Objects made ready for the tests. */
final class Fairs {
    static final int UNKNOWN = -1, BAD = -2, LATE = -3, FULL = -4, NONE = -9;
    /** Arguments far outside of all bounds. */
    static final int[] FAR = {Integer.MIN_VALUE, -1000000, 1000000, Integer.MAX_VALUE};

    private Fairs() { }

    /** Writes a text in place of the one that is there, and answers the FAULT. */
    static int tell(StripsOfFour x, String text) {
        x.wipe();
        for (int i = 0; i < text.length(); i++) {
            x.write(text.charAt(i));
        }
        return x.fault();
    }

    static StripsOfFour of(String text) {
        StripsOfFour x = new StripsOfFour();
        tell(x, text);
        if (x.fair() < 0) {
            throw new IllegalStateException("no fair: " + text);
        }
        return x;
    }

    static void minutes(StripsOfFour x, int n) {
        for (int i = 0; i < n; i++) {
            x.minute();
        }
    }

    /** One booth that flashes each minute, with as many strips of person 0 alone. */
    static StripsOfFour ofStrips(int strips) {
        StripsOfFour x = of("B0S01P0P0P0P0P0");
        x.enter(0, 0);
        minutes(x, 4 * strips);
        return x;
    }

    /** Strips of one booth whose looks have the hats that are told, one figure a look, 9 for nobody. */
    static StripsOfFour ofHats(String told) {
        StripsOfFour x = of("B0S01P0P0P0");
        x.enter(0, 0);
        x.enter(1, 0);
        x.enter(2, 0);
        for (int i = 0; i < told.length(); i++) {
            int next = told.charAt(i) - '0';
            int has = x.about(6);
            if (next == 9 && has != NONE) {
                x.leave(has);
                x.enter(has, 0);
            } else if (next != 9 && next != has) {
                x.hat(next);
            }
            x.minute();
        }
        return x;
    }

    /**
     * Some of everything: WALK 3; strips of both booths, one torn, faded; begun ones in both; the hat on 1; 4 has just left
     * booth 1; slot 0 kept before; a seed that was drawn from.
     */
    static StripsOfFour ofEverything() {
        StripsOfFour x = of("B3S01S01P2P5P9P0P4");
        x.seed(-77);
        x.enter(0, 0);
        x.enter(1, 0);
        x.enter(4, 1);
        x.hat(0);
        x.keep(0);
        minutes(x, 4);
        x.tear(1, 2);
        x.day();
        x.hat(1);
        x.minute();
        x.leave(4);
        return x;
    }

    /** All that can be seen without a change, as a text. */
    static String view(StripsOfFour x) {
        StringBuilder t = new StringBuilder();
        for (int what = 0; what < 10; what++) {
            t.append(x.about(what)).append(' ');
        }
        t.append("fault ").append(x.fault());
        int booths = x.about(0);
        int people = x.about(1);
        int strips = x.about(5);
        for (int booth = 0; booth < booths; booth++) {
            t.append(" | booth");
            for (int what = 0; what < 5; what++) {
                t.append(' ').append(x.booth(booth, what));
            }
        }
        for (int person = 0; person < people; person++) {
            t.append(" | person");
            for (int what = 0; what < 4; what++) {
                t.append(' ').append(x.person(person, what));
            }
        }
        for (int strip = 0; strip < strips; strip++) {
            t.append(" | ").append(stripView(x, strip));
        }
        long seed = x.seed(0);
        x.seed(seed);
        return t.append(" | seed ").append(seed).toString();
    }

    static String stripView(StripsOfFour x, int strip) {
        StringBuilder t = new StringBuilder("strip");
        for (int what = 0; what < 4; what++) {
            t.append(' ').append(x.strip(strip, what));
        }
        for (int look = 0; look < 4; look++) {
            t.append(" /");
            for (int what = 0; what < 4; what++) {
                t.append(' ').append(x.look(strip, look, what));
            }
        }
        return t.toString();
    }

    static long seedOf(StripsOfFour x) {
        long seed = x.seed(0);
        x.seed(seed);
        return seed;
    }
}
