import java.util.List;

/** Promises 16 (property 14), 31 and 32: finds the lists anew and compares them with those that the program has written out. */
public final class SolutionListTest {
    public static void main(String[] args) {
        Due due = new Due();
        ThreeStrandMaps maps = new ThreeStrandMaps();
        for (int n = 1; n <= 4; n++) {
            List<Model.Pairs> list = Model.list(n);
            due.is("listed " + n, maps.listed(n), list.size());
            for (int i = 0; i < list.size(); i++) {
                due.is("take", maps.take(n, i, 0), n);
                compare(due, n, i, new ThreeStrandMaps(), list.get(i));
            }
            due.is("take past the list", maps.take(n, list.size(), 0), ThreeStrandMaps.NONE);
        }
        due.end();
    }

    private static void compare(Due due, int n, int i, ThreeStrandMaps maps, Model.Pairs map) {
        maps.take(n, i, 0);
        for (int x = 0; x < n; x++) {
            for (int y = 0; y < n; y++) {
                String cell = "map " + i + " on " + n + " points, cell " + x + ", " + y;
                due.is(cell, maps.cell(0, x, y, 0), map.l[x][y]);
                due.is(cell, maps.cell(0, x, y, 1), map.r[x][y]);
            }
        }
        due.is("solution", maps.whole(0, 1), 1);
        due.is("involutive", maps.whole(0, 4), 1);
        due.is("left nondegenerate", maps.whole(0, 5), 1);
        for (int[] f : Model.permutations(n)) {
            int code = 0;
            for (int x = 0; x < n; x++) {
                code |= f[x] << 3 * x;
            }
            due.is("rename", maps.rename(0, code, 1), n);
            due.is("index of map " + i + " on " + n + " points, renamed by " + code, maps.whole(1, 14), i);
        }
    }
}
