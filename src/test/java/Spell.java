/** Makes objects, and tells them texts through sign() and end(). */
final class Spell {
    private Spell() {
    }

    static void text(CoffeeThatSlops x, String signs) {
        x.end(0);
        for (int i = 0; i < signs.length(); i += 4) {
            int four = 0;
            for (int k = i; k < i + 4; k++) {
                four = four << 8 | (k < signs.length() ? signs.charAt(k) & 255 : 0);
            }
            x.sign(four);
        }
        x.end(signs.length());
    }

    static int walk(CoffeeThatSlops x, int i, String signs) {
        text(x, signs);
        return x.walk(i);
    }

    static int law(CoffeeThatSlops x, int i, String signs) {
        text(x, signs);
        return x.law(i);
    }

    /** A cup with WALK 0. */
    static CoffeeThatSlops cup(int cells, int rim, int fill, String walk) {
        CoffeeThatSlops x = new CoffeeThatSlops();
        x.cup(cells, rim, fill);
        walk(x, 0, walk);
        return x;
    }
}
