/** Feeds texts to an object, twenty bytes a call; what is left of the last twenty is filled with x. */
final class Texts {
    private Texts() {
    }

    static void feed(LacedHoles x, String text) {
        for (int i = 0; i < text.length(); i += 20) {
            int[] p = new int[5];
            for (int j = 0; j < 20; j++) {
                p[j / 4] = p[j / 4] << 8 | (i + j < text.length() ? text.charAt(i + j) : 'x');
            }
            x.feed(p[0], p[1], p[2], p[3], p[4]);
        }
    }

    static int boot(LacedHoles x, String text) {
        feed(x, text);
        return x.boot(text.length());
    }

    static int way(LacedHoles x, String text) {
        feed(x, text);
        return x.way(text.length());
    }
}
