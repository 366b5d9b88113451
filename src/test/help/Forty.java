/** Forty POINTS that all are corners. */
final class Forty {
    /** Sides that turn left all along; the other twenty are the same ones the other way. */
    private static final int[][] SIDES = {{1, -4}, {1, -3}, {1, -2}, {2, -3}, {1, -1}, {3, -2}, {2, -1}, {3, -1}, {4, -1}, {1, 0},
        {4, 1}, {3, 1}, {2, 1}, {3, 2}, {1, 1}, {2, 3}, {1, 2}, {1, 3}, {1, 4}, {0, 1}};

    private Forty() { }

    /** The places of the corners from the first one on; both x and y begin at -100. */
    static int[][] places() {
        int[][] places = new int[40][2];
        int x = -100;
        int y = 0;
        int least = 0;
        for (int i = 0; i < 40; i++) {
            places[i][0] = x;
            places[i][1] = y;
            int way = i < 20 ? 1 : -1;
            x += way * SIDES[i % 20][0];
            y += way * SIDES[i % 20][1];
            least = Math.min(least, y);
        }
        for (int[] place : places) place[1] -= 100 + least;
        return places;
    }

    /** POINT k of HEAP 0 is the corner 7 k, the corner i POINT 23 i, both less all forties. */
    static TightRings corners() {
        TightRings x = new TightRings();
        int[][] places = places();
        for (int k = 0; k < 40; k++) Edge.due(x, k, "put", places[7 * k % 40][0], places[7 * k % 40][1], 0);
        return x;
    }
}
