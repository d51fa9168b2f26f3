import java.lang.reflect.Method;
import java.lang.reflect.Modifier;
import java.util.ArrayList;
import java.util.Comparator;
import java.util.List;
import java.util.Random;

/** No call ever throws, and the same calls give the same answers: wild numbers on two objects. */
public final class WildTest {
    private static final int[] EDGES = {-2147483648, -2147483647, -1000000, -61, -2, -1, 0, 1, 2, 3, 4, 5, 6, 7, 8, 9, 10, 20,
        23, 24, 25, 31, 32, 59, 60, 61, 99, 100, 101, 1580, 1600, 1601, 2000000000, 2000000001, 2147483646, 2147483647};

    public static void main(String[] args) throws ReflectiveOperationException {
        List<Method> face = new ArrayList<>();
        for (Method method : BalloonGrocers.class.getDeclaredMethods()) {
            if (Modifier.isPublic(method.getModifiers())) {
                face.add(method);
            }
        }
        face.sort(Comparator.comparing(Method::getName));
        Check.due("methods of the face", face.size(), 61);
        for (int seed = 0; seed < 400; seed++) {
            Random random = new Random(seed);
            BalloonGrocers one = new BalloonGrocers();
            BalloonGrocers two = new BalloonGrocers();
            if (seed % 4 != 0) {
                String text = text(random);
                Check.tell(one, text);
                Check.tell(two, text);
                one.valley();
                two.valley();
            }
            for (int i = 0; i < 450; i++) {
                Method method = face.get(random.nextInt(face.size()));
                if (method.getName().equals("valley") && random.nextInt(9) > 0) {
                    continue;
                }
                Object[] numbers = numbers(random, method.getParameterTypes());
                long first = ((Number) method.invoke(one, numbers)).longValue();
                Check.due("seed " + seed + " " + method.getName() + " again", ((Number) method.invoke(two, numbers)).longValue(), first);
            }
        }
        Check.finish("WildTest");
    }

    private static Object[] numbers(Random random, Class<?>[] types) {
        Object[] numbers = new Object[types.length];
        boolean small = random.nextInt(3) > 0;
        for (int i = 0; i < types.length; i++) {
            int number = small ? random.nextInt(6) : random.nextInt(5) == 0 ? random.nextInt() : EDGES[random.nextInt(EDGES.length)];
            if (types[i] == long.class) {
                numbers[i] = small ? (long) number : random.nextLong();
            } else {
                numbers[i] = number;
            }
        }
        return numbers;
    }

    private static String text(Random r) {
        int hours = 1 + r.nextInt(24);
        StringBuilder t = new StringBuilder("valley wide " + (2 + r.nextInt(7)) + " deep " + (2 + r.nextInt(7)) + " layers "
            + (2 + r.nextInt(4)) + " hours " + hours + " cools " + r.nextInt(25) + ";sells within 1 price 9;");
        for (int i = 0; i < 10; i++) {
            t.append("wind 1 from " + r.nextInt(hours) + (r.nextInt(2) == 0 ? " east;" : " north;"));
        }
        for (int i = 0; i < 4; i++) {
            t.append("shop at " + r.nextInt(2) + " " + r.nextInt(2) + " 1 sand " + r.nextInt(10) + " gas " + r.nextInt(10) + " goods 9;");
            t.append("door at " + i % 2 + " " + i / 2 + " wants " + r.nextInt(10) + ";");
            t.append("plan " + i + " " + r.nextInt(hours) + (r.nextInt(2) == 0 ? " rises;" : " sinks;"));
        }
        return t.append("fair at 1 1 from 0 to ").append(hours - 1).append(";").toString();
    }
}
