import java.util.Map;

/**
 * No MACHINE is known with which by no RULE all is done in 2,000 draws. So what if is looked at in a copy
 * of the class, too, that differs in one constant: it has 12 draws at most.
 */
final class FewDraws {
    private static final String MANY = "TRIED_DRAWS = 2000;";
    private static final String FEW = "TRIED_DRAWS = 12;";

    private FewDraws() {
    }

    /** What best() answers in the copy. */
    static void best() {
        String source = Compiled.source();
        Check.due("the bound stands once in the class", source.split(MANY, -1).length, 2);
        Map<String, String> copy = Map.of("TriedLines", source.replace(MANY, FEW));
        Compiled.use("a copy of the class", copy, classes -> look(classes.loadClass("TriedLines")));
    }

    private static void look(Class<?> copy) throws ReflectiveOperationException {
        String head = Look.head(1, 4, 1, "wins", 2);
        Object twelve = told(copy, head + ";core" + ";mark".repeat(12));
        Check.due("best(0) of 12 DEEDS", call(twelve, "best", 0), 0);
        Check.due("trouble()", call(twelve, "trouble"), 0);
        Check.due("tried() of 12 DEEDS", call(twelve, "tried", 0, 1, 0, 0), 12);
        Object thirteen = told(copy, head + ";core" + ";mark".repeat(13));
        Check.due("best(0) of 13 DEEDS", call(thirteen, "best", 0), -2);
        Check.due("trouble()", call(thirteen, "trouble"), 0);
        for (int what = 0; what < 6; what++) {
            Check.due("tried() of 13 DEEDS", call(thirteen, "tried", 0, 1, 0, what), -2);
        }
        // from SEED 20 by two cores 0 0 0 0 1 1 0 .. with 10 STEPS by age, 11 by yields, 13 by wins
        Object some = told(copy, head + ";core;begin;get 0;get 0;put 1;end;core;begin;put 0;put 0;end");
        boolean[] isDone = new boolean[3];
        for (int rule = 0; rule < 3; rule++) {
            isDone[rule] = call(some, "tried", rule, 2, 20, 0) != -2;
        }
        Check.due("not by all RULES", isDone[0], false);
        Check.due("best(20)", call(some, "best", 20), isDone[1] ? 1 : isDone[2] ? 2 : -2);
    }

    private static Object told(Class<?> copy, String text) throws ReflectiveOperationException {
        Object object = copy.getDeclaredConstructor().newInstance();
        for (int i = 0; i < text.length(); i += 20) {
            int[] numbers = new int[5];
            for (int k = 0; k < 20; k++) {
                numbers[k / 4] = numbers[k / 4] << 8 | (i + k < text.length() ? text.charAt(i + k) : ' ');
            }
            call(object, "feed", numbers);
        }
        Check.due("machine()", call(object, "machine", text.length()) > 0, true);
        return object;
    }

    private static int call(Object object, String name, int... numbers) throws ReflectiveOperationException {
        Class<?>[] types = new Class<?>[numbers.length];
        Object[] boxed = new Object[numbers.length];
        for (int i = 0; i < numbers.length; i++) {
            types[i] = int.class;
            boxed[i] = numbers[i];
        }
        return (Integer) object.getClass().getMethod(name, types).invoke(object, boxed);
    }
}
