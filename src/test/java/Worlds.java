/** Small worlds that the tests share: bytes fed, laws and coasts told, and a square island. */
abstract class Worlds {
    static void feedBytes(FogIsland f, int... bytes) {
        for (int from = 0; from < bytes.length; from += 20) {
            int[] n = new int[5];
            for (int i = 0; i < 20; i++) {
                n[i / 4] = n[i / 4] << 8 | (from + i < bytes.length ? bytes[from + i] & 255 : 0);
            }
            f.feed(n[0], n[1], n[2], n[3], n[4]);
        }
    }

    static void feedText(FogIsland f, String text) {
        int[] bytes = new int[text.length()];
        for (int i = 0; i < bytes.length; i++) {
            bytes[i] = text.charAt(i);
        }
        feedBytes(f, bytes);
    }

    static int law(FogIsland f, String text) {
        feedText(f, text);
        return f.law(text.length());
    }

    static int coast(FogIsland f, int... bytes) {
        feedBytes(f, bytes);
        return f.coast(bytes.length / 3);
    }

    static int[] from(int x, int y, int toX, int toY) {
        return new int[] {x, y, toX, toY};
    }

    /** A rectangle from x, y up to but not with toX, toY; sides: below, right, above, left. */
    static int island(FogIsland f, int[] ends, int... sorts) {
        int x = ends[0];
        int y = ends[1];
        int toX = ends[2];
        int toY = ends[3];
        return coast(f, x, y, toX, y, toX, toY, x, toY, sorts[0], sorts[1], sorts[2], sorts[3]);
    }

    /** Land from 10 to 19 both ways: a cliff below, a beach to the right, unknown above, a cliff to the left. */
    static FogIsland withSquare() {
        FogIsland f = new FogIsland();
        island(f, from(10, 10, 20, 20), 0, 1, 2, 0);
        return f;
    }
}
