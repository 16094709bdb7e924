import java.util.ArrayList;
import java.util.List;

/**
 * All that can be seen of an object, as one list: what is told of it, then what comes as its CHANGES are UNDONE and
 * DONE AGAIN, its TAPE read and its IMAGE taken back. The object is used up by it.
 */
public final class Glance {
    private final ZeroForcer x;
    private final List<Integer> seen = new ArrayList<>();

    private Glance(ZeroForcer x) {
        this.x = x;
    }

    /** Some 390 calls at most, by nine POINTS and three full ROWS, so that a hundred may come ahead of it. */
    public static List<Integer> of(ZeroForcer x) {
        Glance glance = new Glance(x);
        glance.counts();
        glance.network();
        glance.rowsAndTrace();
        glance.changes();
        glance.see(x.read());
        glance.counts();
        glance.see(x.back());
        glance.network();
        return glance.seen;
    }

    private void see(int answer) {
        seen.add(answer);
    }

    private void counts() {
        for (int what = 0; what <= 10; what++) {
            see(x.count(what));
        }
    }

    private void network() {
        int n = x.count(0);
        for (int i = 0; i < n; i++) {
            see(x.of(i, 0));
            see(x.of(i, 1));
            see(x.of(i, 4));
            for (int j = 0; j <= i; j++) {
                see(x.entry(i, j));
            }
        }
    }

    private void rowsAndTrace() {
        for (int row = 0; row < 3; row++) {
            see(x.judge(row));
            int told = 0;
            for (int i = 0; i <= 40 && told != Integer.MIN_VALUE; i++) {
                told = x.get(row, i);
                see(told);
            }
        }
        for (int i = 0; i < 8; i++) {
            see(x.trace(i));
        }
    }

    private void changes() {
        int left = x.redo();
        for (int i = 0; i < 13; i++) {
            see(left);
            left = x.redo();
        }
        left = x.undo();
        for (int i = 0; i < 13; i++) {
            see(left);
            for (int what = 1; what <= 4; what++) {
                see(x.count(what));
            }
            left = x.undo();
        }
    }
}
