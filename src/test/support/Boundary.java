import java.lang.reflect.InvocationTargetException;
import java.lang.reflect.Method;
import java.lang.reflect.Modifier;
import java.util.HashMap;
import java.util.LinkedHashSet;
import java.util.List;
import java.util.Map;
import java.util.Set;

/** The ways in which a test of a boundary asks, and the count of what was not as due. */
final class Boundary {
    private static final Set<String> WRONG = new LinkedHashSet<>();
    private static String test = "";
    private static int asked = 0;

    private Boundary() {
    }

    /** Runs each test of a class, so that none is forgotten in a list of them. */
    static void runAll(Class<?> tests) {
        int ran = 0;
        for (Method m : tests.getDeclaredMethods()) {
            if (isTest(m)) {
                runOne(m);
                ran++;
            }
        }
        WRONG.forEach(System.out::println);
        System.out.println(ran + " boundaries, " + asked + " runs, " + WRONG.size() + " faults");
        if (!WRONG.isEmpty() || ran == 0) {
            System.exit(1);
        }
    }

    private static boolean isTest(Method m) {
        return Modifier.isStatic(m.getModifiers()) && m.getParameterCount() == 0
            && m.getReturnType() == void.class && !m.isSynthetic();
    }

    private static void runOne(Method m) {
        test = m.getName();
        try {
            m.setAccessible(true);
            m.invoke(null);
        } catch (InvocationTargetException e) {
            wrong("threw " + e.getCause());
        } catch (IllegalAccessException e) {
            wrong("can't be run");
        }
    }

    static void wrong(String what) {
        WRONG.add(test + ": " + what);
    }

    /** The calls, made in the scene, answer as they say. */
    static void answers(Scene scene, String calls) {
        asked++;
        scene.then(calls).play();
    }

    /** Each number, put in the place of N in the calls, is answered as they say, on its own object. */
    static void answersEach(Scene scene, String calls, int... numbers) {
        for (int number : numbers) {
            answers(scene, put(calls, number));
        }
    }

    /** The call answers as it says, and nothing happens, but the MOMENT if it is a call that has one. */
    static void refused(Scene scene, String call) {
        asked++;
        Call one = Call.read(call).get(0);
        Scene after = scene.then(List.of(one));
        after.play();
        List<Call> readers = scene.readers();
        List<Call> doers = scene.doers();
        compare(one, readers, scene.answers(readers), after.answers(readers));
        compare(one, doers, scene.outcomes(doers), after.outcomes(doers));
        dueMoments(one, scene, after);
    }

    static void refusedEach(Scene scene, String call, int... numbers) {
        for (int number : numbers) {
            refused(scene, put(call, number));
        }
    }

    /** The call answers as it says, changes these answers, and no others. */
    static void only(Scene scene, String call, String changed) {
        asked++;
        Call one = Call.read(call).get(0);
        Scene after = scene.then(List.of(one));
        after.play();
        List<Call> readers = after.readers();
        int[] before = scene.answers(readers);
        int[] due = before.clone();
        Map<String, Integer> places = places(readers);
        for (Call row : Call.read(changed)) {
            Integer place = places.get(row.toString());
            if (place == null || before[place] == row.due) {
                wrong("the test says that " + row + " changes to " + row.due + ", which can't be");
            } else {
                due[place] = row.due;
            }
        }
        compare(one, readers, due, after.answers(readers));
        dueMoments(one, scene, after);
    }

    private static Map<String, Integer> places(List<Call> readers) {
        Map<String, Integer> places = new HashMap<>();
        for (int k = 0; k < readers.size(); k++) {
            places.put(readers.get(k).toString(), k);
        }
        return places;
    }

    private static void compare(Call after, List<Call> asked, int[] due, int[] got) {
        for (int k = 0; k < got.length; k++) {
            if (got[k] != due[k]) {
                wrong("after " + after + ", " + asked.get(k) + " answered " + got[k] + ", due is " + due[k]);
            }
        }
    }

    private static void dueMoments(Call one, Scene scene, Scene after) {
        if (!scene.hasClock()) {
            return;
        }
        int due = scene.moments() + (one.isMoment() ? 1 : 0);
        if (after.moments() != due) {
            wrong("after " + one + " there were " + after.moments() + " moments, due are " + due);
        }
    }

    private static String put(String calls, int number) {
        String word = number == Integer.MIN_VALUE ? "MIN" : number == Integer.MAX_VALUE ? "MAX" : "" + number;
        return calls.replaceAll("\\bN\\b", word);
    }
}
