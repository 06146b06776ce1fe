import java.lang.reflect.InvocationTargetException;
import java.lang.reflect.Method;
import java.lang.reflect.Modifier;
import java.util.Arrays;
import java.util.Comparator;
import java.util.function.Supplier;
import java.util.function.ToLongFunction;

/** What the tests of the promises share: each runs by its own name, and tells which answers were not as due. */
final class Check {
    static final int NONE = -1, UNKNOWN = -1001, OUTSIDE = -1002, STATE = -1003, FULL = -1004;
    static final int[] FAR_NUMBERS = {Integer.MIN_VALUE, -65536, -1004, -1, 65536, Integer.MAX_VALUE};
    /** 12 NODES, each GATE with two PINS: 40 FAULTS, each of which shows by the STIMULUS beside it. */
    static final String GREATEST_BOARD = "4;X01;X23;X01;X23;X01;X23;X01;X23", ITS_STIMULUS = "0f5a";

    private static String test = "";
    private static int wrong = 0;

    private Check() {
    }

    /** Every method without parameters that isn't private is a test. */
    static void runTestsOf(Class<?> tests) {
        Method[] methods = tests.getDeclaredMethods();
        Arrays.sort(methods, Comparator.comparing(Method::getName));
        int ran = 0;
        for (Method method : methods) {
            if (method.getParameterCount() == 0 && !Modifier.isPrivate(method.getModifiers())) {
                test = tests.getSimpleName() + "." + method.getName();
                run(method);
                ran++;
            }
        }
        System.out.println(ran + " tests, " + (wrong == 0 ? "all answers are as due" : wrong + " answers are not as due"));
        if (wrong != 0 || ran == 0) {
            System.exit(1);
        }
    }

    private static void run(Method method) {
        try {
            method.invoke(null);
        } catch (InvocationTargetException | IllegalAccessException thrown) {
            wrong++;
            System.out.println(test + ": threw " + thrown.getCause());
        }
    }

    static void due(String call, long got, long want) {
        if (got != want) {
            wrong++;
            System.out.println(test + ": " + call + " answered " + got + ", due is " + want);
        }
    }

    static GuidedProbes type(GuidedProbes x, String text) {
        for (int at = 0; at < text.length(); at++) {
            x.letter(text.charAt(at));
        }
        return x;
    }

    static GuidedProbes typed(String text) {
        return type(new GuidedProbes(), text);
    }

    static GuidedProbes boardAlone(String board) {
        GuidedProbes x = typed(board);
        if (x.board() < 0) {
            due("board() of " + board, STATE, 0);
        }
        return x;
    }

    static GuidedProbes with(String board, String stimulus) {
        GuidedProbes x = type(boardAlone(board), stimulus);
        due("stimulus() of " + stimulus, x.stimulus(), stimulus.length());
        return x;
    }

    static GuidedProbes hurt(GuidedProbes x, int fault) {
        x.hurt(fault);
        return x;
    }

    /** Something of everything: five NODES, four TICKS, a FAULT, two NODES that were PROBED, four letters. */
    static GuidedProbes busy() {
        GuidedProbes x = hurt(with("2;A01;N2;D3", "0123"), 104);
        x.probe(3);
        x.probe(0);
        return type(x, "2;N5");
    }

    static GuidedProbes busyWithPage(String text) {
        GuidedProbes x = busy();
        x.blank();
        return type(x, text);
    }

    static String repeated(String text, int times) {
        StringBuilder all = new StringBuilder();
        for (int i = 0; i < times; i++) {
            all.append(text);
        }
        return all.toString();
    }

    /** A call that changes nothing: the object stays like a twin that never had it, also by what comes later. */
    static void keeps(String call, Supplier<GuidedProbes> made, ToLongFunction<GuidedProbes> answer, long want) {
        GuidedProbes x = made.get();
        GuidedProbes twin = made.get();
        due(call, answer.applyAsLong(x), want);
        String behind = " behind " + call;
        alike(behind, x, twin);
        due("forget()" + behind, x.forget(), twin.forget());
        due("blank()" + behind, x.blank(), twin.blank());
        due("hurt(0)" + behind, x.hurt(0), twin.hurt(0));
        alike(", forget(), blank(), hurt(0)" + behind, x, twin);
        type(x, "1;N2;D1").board();
        type(twin, "1;N2;D1").board();
        due("digest() of another BOARD" + behind, x.digest(), twin.digest());
    }

    private static void alike(String behind, GuidedProbes x, GuidedProbes twin) {
        due("digest()" + behind, x.digest(), twin.digest());
        due("fault(false)" + behind, x.fault(false), twin.fault(false));
        due("fault(true)" + behind, x.fault(true), twin.fault(true));
        for (int node = 0; node < 12; node++) {
            for (int place = 0; place < 4; place++) {
                due("way(" + node + ", " + place + ")" + behind, x.way(node, place), twin.way(node, place));
            }
        }
    }

    /** A refused call, on an object that has something of everything. */
    static void refused(String call, ToLongFunction<GuidedProbes> answer, long want) {
        keeps(call, Check::busy, answer, want);
    }
}
