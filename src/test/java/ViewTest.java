/** Promises 15 player, 16 out, 17 next, 18 points, 24 raidPoints. */
public final class ViewTest {
    public static void main(String[] args) {
        noSuch();
        players();
        rows();
        raidPoints();
        Check.end();
    }

    private static void noSuch() {
        for (Raidhall x : new Raidhall[] {new Raidhall(), Play.match()}) {
            for (int bad : new int[] {-1, 2, Integer.MAX_VALUE, Integer.MIN_VALUE}) {
                Check.refusedAsIndex(() -> x.player(bad, 0));
                Check.refusedAsIndex(() -> x.out(bad, 0));
                Check.refusedAsIndex(() -> x.next(bad));
                Check.refusedAsIndex(() -> x.points(bad));
                Check.refusedAsIndex(() -> x.raidPoints(bad, 0));
            }
            for (int bad : new int[] {-1, 10, Integer.MAX_VALUE, Integer.MIN_VALUE}) {
                Check.refusedAsIndex(() -> x.player(0, bad));
                Check.refusedAsIndex(() -> x.raidPoints(1, bad));
            }
            Check.refusedAsIndex(() -> x.out(0, -1));
            Check.refusedAsIndex(() -> x.out(0, Integer.MIN_VALUE));
        }
        Raidhall none = new Raidhall();
        Check.refusedAsState(() -> none.out(0, Integer.MAX_VALUE));
        Check.due(-1, () -> Play.match().out(0, Integer.MAX_VALUE));
        Check.due(-1, () -> Play.match().out(1, 10));
    }

    private static void players() {
        Raidhall x = Play.match();
        for (int side = 0; side < 2; side++) {
            for (int i = 0; i < 10; i++) {
                int s = side;
                int p = i;
                Check.due(p < 7 ? Raidhall.ON : Raidhall.BENCH, () -> x.player(s, p));
            }
        }
        x.card(0, 0, 1);
        x.card(0, 1, 2);
        x.change(0, 2, 8);
        Play.fall(x, 8);
        int[] want = {3, 4, 1, 0, 0, 0, 0, 1, 2, 1};
        for (int i = 0; i < 10; i++) {
            int p = i;
            Check.due(want[p], () -> x.player(0, p));
            Check.due(p < 7 ? 0 : 1, () -> x.player(1, p));
        }
    }

    private static void rows() {
        Raidhall x = Play.match();
        Check.due(-1, () -> x.next(0));
        Check.due(-1, () -> x.out(0, 0));
        Play.raid(x, 0, 20, Raidhall.BACK, Play.touch(3), Play.touch(0), Play.touch(6));
        Check.due(3, () -> x.next(1));
        Check.due(3, () -> x.out(1, 0));
        Check.due(0, () -> x.out(1, 1));
        Check.due(6, () -> x.out(1, 2));
        Check.due(-1, () -> x.out(1, 3));
        Check.due(-1, () -> x.next(0));
        Check.due(3, () -> x.points(0));
        Play.fall(x, 1);
        Check.due(3, () -> x.next(1));
        Check.due(1, () -> x.out(1, 3));
        Check.due(4, () -> x.points(0));
        Play.fall(x, 1);
        Check.due(0, () -> x.next(1));
        Check.due(1, () -> x.out(1, 2));
        Check.due(-1, () -> x.out(1, 3));
        Check.due(1, () -> x.next(0));
        Check.due(2, () -> x.points(1));
    }

    private static void raidPoints() {
        Raidhall x = Play.match();
        Play.raid(x, 0, 20, Raidhall.BACK, Play.touch(3), Raidhall.BONUS);
        Play.raid(x, 0, 20, Raidhall.LINE, Play.touch(3));
        Play.raid(x, 0, 20, Raidhall.BACK, Play.touch(4));
        Play.raid(x, 1, 20, Raidhall.FALL, Raidhall.BONUS, Play.touch(3));
        Check.due(3, () -> x.raidPoints(0, 0));
        Check.due(0, () -> x.raidPoints(1, 0));
        Check.due(1, () -> x.raidPoints(1, 1));
        Check.due(0, () -> x.raidPoints(0, 9));
        x.raid(0);
        x.step(Raidhall.TOUCH, 2, 4);
        Check.due(3, () -> x.raidPoints(0, 0));
        x.takeBack(4);
        Check.due(1, () -> x.takeBack(3));
        Check.due(0, () -> x.raidPoints(1, 1));
    }
}
