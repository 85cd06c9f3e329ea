import java.lang.reflect.Method;
import java.util.Arrays;
import java.util.Map;

/** Long runs of calls, made up by a fixed row of numbers, against SlowMesh. */
public final class LongRunsTest {

    private static final int RUNS = 2400;
    private static final int CALLS = 512;

    private static final String[] OFTEN = {
        "addFibre", "toggleConverter", "toggleConverter", "cut", "repair", "repair", "load", "lightOn", "usage",
        "usage", "request", "request", "request", "request", "request", "request", "newLength", "newLength",
        "newLength", "newLength", "release", "release", "lightOf", "requests", "lights", "state", "state", "units",
        "units", "channels", "channel", "channel", "channel", "channel", "channel", "reroute", "reroute", "reroute",
        "merge", "move", "move", "wavelengthsNeeded", "wavelengthsNeeded"
    };

    private static final Map<String, Method> FAST = ByName.methodsOf(Opticmesh.class);
    private static final Map<String, Method> SLOW = ByName.methodsOf(SlowMesh.class);

    private static long seed;
    private static int nodes;
    private static int wavelengths;
    /** 0: begin comes often; 1: small demands, few releases; 3: few wavelengths; 4: large networks. */
    private static int style;

    public static void main(String[] args) throws IllegalAccessException {
        for (int run = 0; run < RUNS && Check.allRight(); run++) {
            seed = 77L + run;
            for (int warm = 0; warm < 5; warm++) {
                below(10);
            }
            oneRun(run);
        }
        Check.end("LongRunsTest");
    }

    private static void oneRun(int run) throws IllegalAccessException {
        Opticmesh fast = new Opticmesh();
        SlowMesh slow = new SlowMesh();
        nodes = 4;
        wavelengths = 4;
        style = below(5);
        int fibresFirst = below(15);
        boolean beginsFirst = below(8) > 0;
        StringBuilder told = new StringBuilder();
        for (int calls = 0; calls < CALLS && Check.allRight(); calls++) {
            String name = calls == 0 && beginsFirst ? "begin" : calls <= fibresFirst ? "addFibre" : pick();
            call(told, fast, slow, name, run);
        }
        if (!Check.allRight()) {
            System.out.println(told);
        }
    }

    private static void call(StringBuilder told, Opticmesh fast, SlowMesh slow, String name, int run)
            throws IllegalAccessException {
        Object[] arguments = argumentsFor(name, slow);
        String text = name + Arrays.toString(arguments);
        String want = ByName.answer(SLOW.get(name), slow, arguments);
        String got = ByName.answer(FAST.get(name), fast, arguments);
        if (name.equals("begin") && want.equals("null")) {
            nodes = (Integer) arguments[0];
            wavelengths = (Integer) arguments[1];
        }
        told.append(text).append(" -> ").append(want).append('\n');
        if (!want.equals(got)) {
            System.out.println("run " + run + ": " + text + " answers " + got + ", due is " + want);
        }
        Check.same("run " + run, 1, want.equals(got) ? 1 : 0);
    }

    private static int below(int bound) {
        seed = seed * 6364136223846793005L + 1442695040888963407L;
        return (int) ((seed >>> 33) % bound);
    }

    /** Mostly a number from 0 to one below the bound, now and then one beside it. */
    private static int about(int bound) {
        int roll = below(60);
        if (roll == 0) {
            return -1;
        }
        return roll == 1 || bound < 1 ? bound : below(bound);
    }

    /** Mostly what is usual, now and then one of two numbers that are out of range. */
    private static int orOut(int usual, int low, int high) {
        int roll = below(80);
        return roll == 0 ? low : roll == 1 ? high : usual;
    }

    private static String pick() {
        if (below(style == 0 ? 400 : 2000) == 0) {
            return "begin";
        }
        String name = OFTEN[below(OFTEN.length)];
        return (style == 1 || style == 4) && name.equals("release") && below(2) == 0 ? "request" : name;
    }

    private static Object[] argumentsFor(String name, SlowMesh slow) {
        return switch (name) {
            case "begin" -> {
                int manyNodes = orOut(style == 4 ? 6 + below(3) : 2 + below(7), 1, 9);
                yield new Object[] {manyNodes, orOut(1 + below(mostWavelengths(manyNodes)), 0, 9)};
            }
            case "addFibre" -> new Object[] {about(nodes), about(nodes),
                orOut(below(3) > 0 ? 1 + below(4) : 1 + below(1000), 0, 1001)};
            case "toggleConverter" -> new Object[] {about(nodes)};
            case "cut", "repair" -> new Object[] {about(slow.fibreCount())};
            case "lightOn" -> new Object[] {about(slow.fibreCount()), about(wavelengths)};
            case "request" -> new Object[] {about(nodes), about(nodes),
                orOut(1 + below(style == 1 ? 3 : 10), 0, 11), orOut(below(3), -1, 3)};
            case "newLength" -> new Object[] {about(nodes), about(nodes), orOut(below(3), -1, 3)};
            case "release", "lightOf" -> new Object[] {about(slow.requests())};
            case "state", "units", "reroute" -> new Object[] {about(slow.lights())};
            case "channels" -> new Object[] {about(slow.lights()), about(2)};
            case "channel" -> new Object[] {about(slow.lights()), about(2), about(3)};
            default -> new Object[] {};
        };
    }

    /** SlowMesh lists all ways where these lists stay short: mostly many wavelengths stand in small networks. */
    private static int mostWavelengths(int manyNodes) {
        if (style >= 3) {
            return style == 3 ? 3 : 8;
        }
        return manyNodes <= 4 ? 8 : manyNodes <= 6 ? 3 : 2;
    }
}
