/**
 * All promises: long rows of calls, made from fixed seeds, in which whole programs are built, asked,
 * changed, run and cleared, each answer compared with the model's.
 */
public final class ModelTest {
    private static final int OBJECTS = 2500;
    private static final int WRONGS = 25;
    private static final Check check = new Check();

    public static void main(String[] args) {
        for (int seed = 0; seed < OBJECTS && check.clean(); seed++) {
            Row row = new Row(check, seed, WRONGS);
            while (row.more()) {
                build(row);
                useAndChange(row);
                row.call(6);
            }
            if (!check.clean()) {
                System.out.println("seed " + seed + ", the calls so far:\n" + row.calls());
            }
        }
        check.end();
    }

    private static void build(Row row) {
        int wanted = row.below(6) == 0 ? 17 : row.below(17);
        for (int n = 0; n < wanted; n++) {
            row.call(2);
        }
        int codes = row.below(3 * row.blocks() + 1);
        for (int n = 0; n < codes; n++) {
            row.call(3);
        }
        for (int b = 0; b < row.blocks(); b++) {
            row.exit(b);
        }
        row.call(5);
    }

    private static void useAndChange(Row row) {
        int calls = 20 + row.below(250);
        for (int n = 0; n < calls; n++) {
            if (row.below(12) == 0) {
                int[] changes = {2, 3, 3, 4, 4, 5};
                row.call(changes[row.below(changes.length)]);
            } else {
                row.call(7 + row.below(11));
            }
        }
    }
}
