import java.lang.reflect.Constructor;
import java.lang.reflect.Field;
import java.lang.reflect.Method;
import java.lang.reflect.Modifier;
import java.util.Arrays;
import java.util.Set;
import java.util.TreeSet;
import java.util.stream.Collectors;

/** The public face, and promise 1: a new object. */
public final class FaceTest {
    private static final String FACE = """
            int answer(boolean) ISE
            int begin(int,int,int) IOOBE,IAE,ISE
            int bid(int,int) IOOBE,IAE,ISE
            int call(int) IOOBE,ISE
            int card(int,int,int) IOOBE,IAE,ISE
            int change(int,int,int) IOOBE,ISE
            int clear()
            int club(int,int) IOOBE,IAE
            int enter() ISE
            int fault()
            int hammer() ISE
            boolean hasReview(int) IOOBE,ISE
            int lot(int,int) IOOBE,IAE
            int matAfter(int,int) IOOBE
            int matAnew(int,int) IOOBE
            int match(int) IAE,ISE
            int next(int) IOOBE,ISE
            int out(int,int) IOOBE,ISE
            int player(int,int) IOOBE,ISE
            int points(int) IOOBE,ISE
            int pointsAfter(int,int) IOOBE
            int raid(int) IOOBE,ISE
            int raidPoints(int,int) IOOBE,ISE
            int review(int,int,int,int,int) IOOBE,IAE,ISE
            int right(int,int) IOOBE,ISE
            int run() ISE
            int squad(int,int) IOOBE,IAE
            int step(int,int,int) IAE,ISE
            int takeBack(int) IOOBE
            int type(int) IAE,ISE
            int wouldFall(int,int,int,int) IOOBE,IAE
            """;

    public static void main(String[] args) throws ReflectiveOperationException {
        face();
        constants();
        aNewObject();
        Check.end();
    }

    private static void face() {
        Check.isSo(Modifier.isPublic(Raidhall.class.getModifiers()) && Modifier.isFinal(Raidhall.class.getModifiers()));
        Constructor<?>[] made = Raidhall.class.getDeclaredConstructors();
        Check.isSo(made.length == 1 && Modifier.isPublic(made[0].getModifiers()) && made[0].getParameterCount() == 0);
        Set<String> due = new TreeSet<>(FACE.lines().map(String::trim).collect(Collectors.toList()));
        Set<String> found = new TreeSet<>();
        Set<String> names = new TreeSet<>();
        for (Method m : Raidhall.class.getDeclaredMethods()) {
            if (Modifier.isPublic(m.getModifiers())) {
                found.add(signature(m));
                names.add(m.getName());
            }
        }
        Check.isSo(found.equals(due));
        for (Method m : Raidhall.class.getDeclaredMethods()) {
            Check.isSo(Modifier.isPublic(m.getModifiers())
                    || Modifier.isPrivate(m.getModifiers()) && !names.contains(m.getName()));
        }
        for (Class<?> inside : Raidhall.class.getDeclaredClasses()) {
            Check.isSo(Modifier.isPrivate(inside.getModifiers()) && Modifier.isStatic(inside.getModifiers()));
        }
    }

    private static String signature(Method m) {
        String throwing = Arrays.stream(m.getExceptionTypes())
                .map(c -> c == IndexOutOfBoundsException.class ? "IOOBE"
                        : c == IllegalArgumentException.class ? "IAE"
                        : c == IllegalStateException.class ? "ISE" : c.getName())
                .collect(Collectors.joining(","));
        String taking = Arrays.stream(m.getParameterTypes()).map(Class::getName).collect(Collectors.joining(","));
        return (m.getReturnType() + " " + m.getName() + "(" + taking + ") " + throwing).trim();
    }

    private static void constants() throws ReflectiveOperationException {
        String[] names = {"NONE", "ON", "BENCH", "OUT", "SUSPENDED", "GONE",
            "TOUCH", "BONUS", "BAULK", "BACK", "FALL", "LINE", "TIME"};
        int[] values = {-1, 0, 1, 2, 3, 4, 0, 1, 2, 3, 4, 5, 6};
        for (int i = 0; i < names.length; i++) {
            Field field = Raidhall.class.getDeclaredField(names[i]);
            int mods = field.getModifiers();
            int value = field.getInt(null);
            int want = values[i];
            Check.isSo(Modifier.isPublic(mods) && Modifier.isStatic(mods) && Modifier.isFinal(mods));
            Check.due(want, () -> value);
        }
        long open = Arrays.stream(Raidhall.class.getDeclaredFields())
                .filter(f -> !Modifier.isPrivate(f.getModifiers())).count();
        Check.due(names.length, () -> open);
    }

    private static void aNewObject() {
        Raidhall x = new Raidhall();
        for (int club = 0; club < 8; club++) {
            int c = club;
            Check.due(1000, () -> x.squad(c, 0));
            Check.due(0, () -> x.squad(c, 1));
            Check.due(0, () -> x.squad(c, 2));
            for (int what = 0; what < 6; what++) {
                int w = what;
                Check.due(0, () -> x.club(c, w));
            }
            Check.due(c, () -> x.club(c, 6));
        }
        for (int lot = 0; lot < 24; lot++) {
            int l = lot;
            for (int what = 0; what < 4; what++) {
                int w = what;
                Check.due(-1, () -> x.lot(l, w));
            }
        }
        Check.due(-1, x::fault);
        Check.due(0, x::clear);
        Check.due(0, x::run);
        for (int what = 0; what < 8; what++) {
            int w = what;
            Check.refusedAsState(() -> x.match(w));
        }
        Check.refusedAsState(() -> x.raid(0));
        Check.refusedAsState(() -> x.step(Raidhall.BACK, -1, 1));
        Check.refusedAsState(() -> x.card(0, 0, 0));
        Check.refusedAsState(() -> x.change(0, 0, 7));
        Check.refusedAsIndex(() -> x.review(0, 0, 0, 0, 0));
        Check.refusedAsIndex(() -> x.wouldFall(0, 0, 0, 0));
        Check.refusedAsIndex(() -> x.takeBack(0));
        Check.refusedAsState(x::enter);
        Check.refusedAsState(() -> x.player(0, 0));
        Check.refusedAsState(() -> x.out(0, 0));
        Check.refusedAsState(() -> x.next(0));
        Check.refusedAsState(() -> x.points(0));
        Check.refusedAsState(() -> x.hasReview(0) ? 1 : 0);
        Check.refusedAsIndex(() -> x.matAfter(0, 0));
        Check.refusedAsIndex(() -> x.matAnew(0, 0));
        Check.refusedAsIndex(() -> x.pointsAfter(0, 0));
        Check.refusedAsState(() -> x.raidPoints(0, 0));
        Check.refusedAsState(() -> x.bid(0, 1));
        Check.refusedAsState(x::hammer);
        Check.refusedAsState(() -> x.answer(true));
    }
}
