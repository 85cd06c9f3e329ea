/** The edges of promises 20 to 23: reroute, merge, move, wavelengthsNeeded. */
public final class LightEdgesTest {

    public static void main(String[] args) {
        rerouteKeepsTheSameWay();
        rerouteToALowerWavelength();
        rerouteOverItsOwnChannels();
        rerouteOverACutFibreOfItsOwn();
        rerouteMayConvert();
        rerouteTakesAFreedWay();
        rerouteIsForOneLightAlone();
        rerouteWithoutAWay();
        rerouteAsksNoRule();
        mergeOfTheFirstPair();
        mergeJoinsEitherOrder();
        mergeKeepsTheLowerOnesWay();
        mergeKeepsTheLowerOnesDirection();
        mergeOfFullAndEmpty();
        mergeAsksBothToBeUp();
        mergePassesProtectedOnes();
        mergeOverAndOver();
        moveByOneAndByAll();
        moveAsksAllFibresOfTheWay();
        moveOfCutWays();
        movePassesConvertingWays();
        moveOfAProtectedLight();
        moveTakesOneAtATime();
        neededByNone();
        neededByManyOnOneFibre();
        neededByARing();
        neededByConvertingWays();
        neededByWayZeroAlone();
        neededAfterEachCall();
        Check.end("LightEdgesTest");
    }

    // ---- reroute

    private static void rerouteKeepsTheSameWay() {
        Opticmesh x = Mesh.with(2, 1, new int[][] {{0, 1, 1000}});
        x.request(0, 1, 10, 0);
        for (int round = 0; round < 3; round++) {
            Check.answers("P20 the same way", 1000, () -> x.reroute(0));
            Mesh.way("P20 the same way", x, 0, 0, 0);
            Check.answers("P7 it is on its channel", 0, () -> x.lightOn(0, 0));
            Check.same("P9 one of one", 1f, x.usage());
        }
        Check.answers("P15 no light was made", 1, () -> x.lights());
        Check.answers("P14 no request was granted", 1, () -> x.requests());
    }

    private static void rerouteToALowerWavelength() {
        Opticmesh x = Mesh.with(2, 3, new int[][] {{0, 1, 5}, {0, 1, 5}});
        for (int light = 0; light < 4; light++) {
            x.request(0, 1, 10, 0);
        }
        x.release(1);
        Check.answers("P20 as long", 5, () -> x.reroute(3));
        Mesh.way("P20 the lower fibre", x, 3, 0, 1);
        x.release(0);
        Check.answers("P20 as long", 5, () -> x.reroute(2));
        Mesh.way("P20 the lower wavelength", x, 2, 0, 0);
        Check.answers("P7 its old one is free", -1, () -> x.lightOn(0, 2));
        Check.answers("P7 the other one's old one too", -1, () -> x.lightOn(1, 0));
    }

    /** The new way has one channel with the old one in common. */
    private static void rerouteOverItsOwnChannels() {
        Opticmesh x = Mesh.with(3, 1, new int[][] {{0, 1, 5}, {1, 2, 9}});
        x.request(0, 2, 3, 0);
        x.addFibre(2, 1, 4);
        Check.answers("P20 over fibres 0 and 2", 9, () -> x.reroute(0));
        Mesh.way("P20 over fibres 0 and 2", x, 0, 0, 0, 20);
        Check.answers("P7 fibre 1 is free", -1, () -> x.lightOn(1, 0));
        Check.answers("P7 fibre 2 is not", 0, () -> x.lightOn(2, 0));
        x.addFibre(0, 2, 10);
        Check.answers("P20 10 is too long", 9, () -> x.reroute(0));
        x.addFibre(0, 2, 9);
        Check.answers("P20 as long, with fewer channels", 9, () -> x.reroute(0));
        Mesh.way("P20 over fibre 4", x, 0, 0, 40);
        Check.answers("P18 one channel", 1, () -> x.channels(0, 0));
        Check.fails("P19 no second place", Check.INDEX, () -> x.channel(0, 0, 1));
        Check.answers("P7 fibre 0 is free", -1, () -> x.lightOn(0, 0));
    }

    private static void rerouteOverACutFibreOfItsOwn() {
        Opticmesh x = Mesh.with(2, 1, new int[][] {{0, 1, 5}, {0, 1, 6}});
        x.request(0, 1, 3, 0);
        x.cut(0);
        Check.answers("P20 its own fibre is cut", 6, () -> x.reroute(0));
        Mesh.way("P20 over the other one", x, 0, 0, 10);
        Check.answers("P16 it is up", 0, () -> x.state(0));
        Check.answers("P6 none comes up", 0, () -> x.repair(0));
        Check.answers("P5 it doesn't go down with fibre 0", 0, () -> x.cut(0));
        Check.answers("P5 but with fibre 1", 1, () -> x.cut(1));
        Check.fails("P20 both are cut", Check.STATE, () -> x.reroute(0));
        Mesh.way("P20 it stays where it is", x, 0, 0, 10);
        Check.answers("P16 it stays down", 1, () -> x.state(0));
        x.repair(0);
        Check.answers("P16 it is down until it is rerouted", 1, () -> x.state(0));
        Check.answers("P20 back", 5, () -> x.reroute(0));
        Check.answers("P16 it is up again", 0, () -> x.state(0));
    }

    private static void rerouteMayConvert() {
        Opticmesh x = Mesh.with(3, 2, new int[][] {{0, 1, 5}, {1, 2, 5}, {0, 2, 11}});
        x.request(0, 1, 10, 0);
        x.request(1, 2, 10, 0);
        x.request(1, 2, 10, 0);
        x.request(0, 2, 10, 1);
        x.release(1);
        Mesh.way("P10 without conversion", x, 3, 0, 20);
        Check.answers("P20 no node converts", 11, () -> x.reroute(3));
        x.toggleConverter(1);
        Check.answers("P20 node 1 converts", 10, () -> x.reroute(3));
        Mesh.way("P20 at node 1", x, 3, 0, 1, 10);
        x.toggleConverter(1);
        Mesh.way("P4 it stays as it is", x, 3, 0, 1, 10);
        Check.answers("P20 node 1 doesn't convert any more", 11, () -> x.reroute(3));
        Mesh.way("P20 without conversion again", x, 3, 0, 20);
    }

    private static void rerouteTakesAFreedWay() {
        Opticmesh x = Mesh.with(2, 1, new int[][] {{0, 1, 5}, {0, 1, 6}});
        x.request(0, 1, 10, 0);
        x.request(0, 1, 10, 0);
        Check.answers("P20 light 0 uses the other one", 6, () -> x.reroute(1));
        x.release(0);
        Check.answers("P20 light 0 is gone", 5, () -> x.reroute(1));
        Mesh.way("P20 over its fibre", x, 1, 0, 0);
        Check.answers("P7 light 1", 1, () -> x.lightOn(0, 0));
        Check.answers("P7 the other fibre is free", -1, () -> x.lightOn(1, 0));
    }

    private static void rerouteIsForOneLightAlone() {
        Opticmesh x = Mesh.with(2, 2, new int[][] {{0, 1, 5}, {0, 1, 6}});
        x.cut(0);
        x.request(0, 1, 6, 0);
        x.request(1, 0, 7, 0);
        x.repair(0);
        Check.answers("P20 light 1", 5, () -> x.reroute(1));
        Mesh.way("P20 light 0 stays", x, 0, 0, 10);
        Mesh.way("P20 light 1 doesn't", x, 1, 0, 0);
        Check.answers("P13 request 0", 0, () -> x.lightOf(0));
        Check.answers("P13 request 1", 1, () -> x.lightOf(1));
        Check.answers("P17 units stay", 7, () -> x.units(1));
    }

    private static void rerouteWithoutAWay() {
        Opticmesh x = Mesh.with(3, 1, new int[][] {{0, 1, 5}, {1, 2, 5}, {0, 2, 5}});
        x.cut(2);
        x.request(0, 2, 4, 0);
        x.cut(1);
        Check.fails("P20 two of three are cut", Check.STATE, () -> x.reroute(0));
        Mesh.way("P20 it keeps its way", x, 0, 0, 0, 10);
        Check.answers("P7 and its channels", 0, () -> x.lightOn(0, 0));
        Check.answers("P7 cut ones too", 0, () -> x.lightOn(1, 0));
        x.repair(2);
        x.request(0, 2, 10, 0);
        Check.fails("P20 the third is used", Check.STATE, () -> x.reroute(0));
        x.release(0);
        Check.fails("P20 now it is gone", Check.STATE, () -> x.reroute(0));
    }

    /** A light that was made by rule 1 is rerouted to the first of all ways. */
    private static void rerouteAsksNoRule() {
        Opticmesh x = Mesh.with(3, 2, new int[][] {{0, 2, 5}, {0, 1, 50}, {1, 2, 50}});
        x.request(0, 2, 10, 1);
        x.request(0, 2, 10, 1);
        Mesh.way("P10 wavelength 0, the long way", x, 1, 0, 10, 20);
        Check.answers("P20 the short way", 5, () -> x.reroute(1));
        Mesh.way("P20 on wavelength 1", x, 1, 0, 1);
    }

    // ---- merge

    /** Lights between nodes 0 and 1, each with so many units; whatever filled them is released. */
    private static Opticmesh lightsOf(int... units) {
        Opticmesh x = Mesh.with(2, 8, new int[][] {{0, 1, 5}, {0, 1, 6}});
        for (int carried : units) {
            x.request(0, 1, carried, 0);
            x.request(0, 1, 10 - carried, 0);
        }
        for (int light = 0; light < units.length; light++) {
            x.release(2 * light + 1);
        }
        return x;
    }

    private static void mergeOfTheFirstPair() {
        Opticmesh x = lightsOf(9, 6, 5, 4, 1);
        Check.answers("P21 lights 0 and 4", 4, () -> x.merge());
        Check.answers("P21 lights 1 and 3", 3, () -> x.merge());
        Check.fails("P21 10, 10 and 5", Check.STATE, () -> x.merge());
        int[] units = {10, 10, 5, 0, 0};
        for (int light = 0; light < 5; light++) {
            int asked = light;
            Check.answers("P17 light " + light, units[light], () -> x.units(asked));
        }
        Check.answers("P13 request 8", 0, () -> x.lightOf(8));
        Check.answers("P13 request 6", 1, () -> x.lightOf(6));
        Check.answers("P13 request 4", 2, () -> x.lightOf(4));
        Opticmesh y = lightsOf(9, 9, 9, 9, 9, 9, 9, 9, 9, 9, 5, 5);
        Check.answers("P21 the last two of twelve", 11, () -> y.merge());
        Check.answers("P17 light 10", 10, () -> y.units(10));
    }

    private static void mergeJoinsEitherOrder() {
        Opticmesh x = Mesh.with(3, 4, new int[][] {{0, 1, 5}, {1, 2, 5}});
        x.request(0, 2, 6, 0);
        x.request(2, 0, 6, 0);
        x.request(1, 2, 6, 0);
        x.request(0, 1, 6, 0);
        x.request(2, 0, 4, 0);
        x.release(0);
        Check.answers("P21 from 0 to 2 and from 2 to 0", 1, () -> x.merge());
        Mesh.way("P21 the lower one's way", x, 0, 0, 0, 10);
        Check.answers("P21 its units", 10, () -> x.units(0));
        x.release(1);
        Check.fails("P21 one end in common is not enough", Check.STATE, () -> x.merge());
    }

    private static void mergeKeepsTheLowerOnesWay() {
        Opticmesh x = Mesh.with(2, 2, new int[][] {{0, 1, 6}, {0, 1, 5}});
        x.cut(1);
        x.request(0, 1, 6, 0);
        x.repair(1);
        x.request(0, 1, 7, 0);
        x.request(0, 1, 3, 0);
        x.release(0);
        Check.answers("P21 merge", 1, () -> x.merge());
        Mesh.way("P21 the longer way of the lower one", x, 0, 0, 0);
        Check.answers("P7 the shorter one is free", -1, () -> x.lightOn(1, 0));
        Check.answers("P20 reroute then", 5, () -> x.reroute(0));
    }

    /** Also when only requests of the other one are left, which named the nodes the other way round. */
    private static void mergeKeepsTheLowerOnesDirection() {
        Opticmesh x = Mesh.with(3, 4, new int[][] {{0, 1, 5}, {1, 2, 5}, {0, 2, 30}});
        x.request(2, 0, 6, 0);
        x.request(0, 2, 6, 0);
        x.request(0, 2, 4, 0);
        Mesh.way("P10 the other one leads from 0 to 2", x, 1, 0, 1, 11);
        x.release(0);
        Check.answers("P21 merge", 1, () -> x.merge());
        Mesh.way("P21 from 2 to 0", x, 0, 0, 10, 0);
        Check.answers("P12 its own last request goes", 6, () -> x.release(2));
        Mesh.way("P12 from 2 to 0 still", x, 0, 0, 10, 0);
        Check.answers("P20 reroute", 10, () -> x.reroute(0));
        Mesh.way("P20 from 2 to 0 still", x, 0, 0, 10, 0);
        x.cut(1);
        Check.answers("P20 around the cut", 30, () -> x.reroute(0));
        x.repair(1);
        Check.answers("P20 back again", 10, () -> x.reroute(0));
        Mesh.way("P20 from 2 to 0 again", x, 0, 0, 10, 0);
    }

    private static void mergeOfFullAndEmpty() {
        Opticmesh x = lightsOf(10 - 1, 2);
        Check.fails("P21 9 and 2", Check.STATE, () -> x.merge());
        Opticmesh y = lightsOf(9, 1);
        Check.answers("P21 9 and 1", 1, () -> y.merge());
        Opticmesh z = Mesh.with(2, 2, new int[][] {{0, 1, 5}});
        z.request(0, 1, 10, 0);
        z.request(0, 1, 1, 0);
        Check.fails("P21 10 and 1", Check.STATE, () -> z.merge());
        z.release(0);
        Check.fails("P21 one that is gone and 1", Check.STATE, () -> z.merge());
        z.request(0, 1, 10, 0);
        z.release(1);
        Check.fails("P21 10 and one that is gone", Check.STATE, () -> z.merge());
        z.release(2);
        Check.fails("P21 all are gone", Check.STATE, () -> z.merge());
    }

    private static void mergeAsksBothToBeUp() {
        for (int cuts = 0; cuts < 4; cuts++) {
            Opticmesh x = Mesh.with(2, 1, new int[][] {{0, 1, 5}, {0, 1, 6}});
            x.request(0, 1, 6, 0);
            x.request(0, 1, 6, 0);
            x.request(0, 1, 4, 0);
            x.release(0);
            if ((cuts & 1) != 0) {
                x.cut(0);
            }
            if ((cuts & 2) != 0) {
                x.cut(1);
            }
            if (cuts == 0) {
                Check.answers("P21 both are up", 1, () -> x.merge());
            } else {
                Check.fails("P21 not both are up, cuts " + cuts, Check.STATE, () -> x.merge());
                Check.answers("P21 the request stays", 1, () -> x.lightOf(1));
            }
        }
    }

    private static void mergePassesProtectedOnes() {
        Opticmesh x = Mesh.with(2, 8, new int[][] {{0, 1, 5}, {0, 1, 6}});
        x.request(0, 1, 1, 2);
        x.request(0, 1, 6, 0);
        x.request(0, 1, 10, 2);
        x.request(0, 1, 6, 0);
        x.request(0, 1, 4, 0);
        x.release(1);
        x.request(0, 1, 1, 2);
        Check.answers("P21 light 1 and light 3", 3, () -> x.merge());
        Check.answers("P17 light 0", 2, () -> x.units(0));
        Check.answers("P17 light 1", 10, () -> x.units(1));
        Check.fails("P21 protected ones are left", Check.STATE, () -> x.merge());
        x.cut(0);
        Check.fails("P21 protected ones with one way", Check.STATE, () -> x.merge());
    }

    private static void mergeOverAndOver() {
        Opticmesh x = lightsOf(1, 1, 1, 1, 1, 1, 1, 1, 1, 1, 1, 1);
        for (int high = 1; high < 10; high++) {
            Check.answers("P21 light " + high, high, () -> x.merge());
        }
        Check.answers("P21 light 0 is full, light 11 goes", 11, () -> x.merge());
        Check.fails("P21 10 and 2", Check.STATE, () -> x.merge());
        for (int light = 0; light < 12; light++) {
            int request = 2 * light;
            int due = light < 10 ? 0 : 10;
            Check.answers("P13 request " + request, due, () -> x.lightOf(request));
        }
        for (int light = 0; light < 10; light++) {
            int request = 2 * light;
            int due = 9 - light;
            Check.answers("P12 request " + request, due, () -> x.release(request));
        }
        Check.answers("P16 light 0 is gone", 2, () -> x.state(0));
        Check.answers("P17 light 10", 2, () -> x.units(10));
    }

    // ---- move

    private static void moveByOneAndByAll() {
        for (int from = 1; from < 8; from++) {
            for (int to = 0; to < from; to++) {
                Opticmesh x = Mesh.with(2, 8, new int[][] {{0, 1, 5}});
                for (int light = 0; light <= from; light++) {
                    x.request(0, 1, 10, 0);
                }
                x.release(to);
                int mover = to + 1;
                int channel = to;
                Check.answers("P22 from " + from + ", " + to + " is free", mover, () -> x.move());
                Check.answers("P22 it is on " + to, channel, () -> x.channel(mover, 0, 0));
                for (int light = to + 2; light <= from; light++) {
                    int next = light;
                    Check.answers("P22 light " + light, next, () -> x.move());
                }
                Check.fails("P22 all are moved", Check.STATE, () -> x.move());
            }
        }
    }

    /** A way over two fibres; on one of them each lower wavelength but one is used. */
    private static void moveAsksAllFibresOfTheWay() {
        Opticmesh x = Mesh.with(3, 4, new int[][] {{0, 1, 5}, {1, 2, 5}});
        for (int light = 0; light < 3; light++) {
            x.request(0, 1, 10, 0);
            x.request(1, 2, 10, 0);
        }
        x.request(0, 2, 10, 0);
        Mesh.way("P22 on wavelength 3", x, 6, 0, 3, 13);
        Check.fails("P22 none is free", Check.STATE, () -> x.move());
        x.release(4);
        Check.fails("P22 wavelength 2 on one fibre", Check.STATE, () -> x.move());
        x.release(5);
        Check.answers("P22 wavelength 2 on both", 6, () -> x.move());
        Mesh.way("P22 it moved by one", x, 6, 0, 2, 12);
        x.release(0);
        Check.answers("P22 light 2 goes first", 2, () -> x.move());
        Mesh.way("P22 it moved to 0", x, 2, 0, 0);
        Check.fails("P22 wavelength 1 on one fibre", Check.STATE, () -> x.move());
        x.release(3);
        Check.answers("P22 wavelength 1 on both", 6, () -> x.move());
        Mesh.way("P22 it moved by one again", x, 6, 0, 1, 11);
    }

    private static void moveOfCutWays() {
        for (int cuts = 0; cuts < 4; cuts++) {
            Opticmesh x = Mesh.with(3, 2, new int[][] {{0, 1, 5}, {1, 2, 5}});
            x.request(0, 2, 10, 0);
            x.request(2, 0, 10, 0);
            x.release(0);
            if ((cuts & 1) != 0) {
                x.cut(0);
            }
            if ((cuts & 2) != 0) {
                x.cut(1);
            }
            Check.answers("P22 cuts " + cuts, 1, () -> x.move());
            Mesh.way("P22 cuts " + cuts, x, 1, 0, 10, 0);
            Check.answers("P16 cuts " + cuts, cuts == 0 ? 0 : 1, () -> x.state(1));
        }
    }

    private static void movePassesConvertingWays() {
        Opticmesh x = Mesh.with(3, 3, new int[][] {{0, 1, 5}, {1, 2, 5}});
        x.toggleConverter(1);
        for (int light = 0; light < 3; light++) {
            x.request(0, 1, 10, 0);
            x.request(1, 2, 10, 0);
        }
        x.release(4);
        x.release(3);
        x.request(0, 2, 10, 0);
        Mesh.way("P22 a way that converts", x, 6, 0, 2, 11);
        x.release(0);
        x.release(1);
        Check.answers("P22 light 2, from 1 to 0", 2, () -> x.move());
        Check.answers("P22 light 5, from 2 to 0", 5, () -> x.move());
        x.release(2);
        x.release(5);
        Check.fails("P22 light 6 converts, though all are free", Check.STATE, () -> x.move());
        x.toggleConverter(1);
        Check.fails("P22 it converts still", Check.STATE, () -> x.move());
        Check.answers("P20 reroute", 10, () -> x.reroute(6));
        Mesh.way("P20 without conversion", x, 6, 0, 0, 10);
        x.request(0, 2, 10, 0);
        x.release(6);
        Check.answers("P22 light 7 doesn't convert", 7, () -> x.move());
    }

    private static void moveOfAProtectedLight() {
        Opticmesh x = Mesh.with(3, 3, new int[][] {{0, 2, 5}, {0, 1, 5}, {1, 2, 5}});
        x.request(0, 2, 10, 0);
        x.request(0, 1, 10, 0);
        x.request(0, 2, 10, 2);
        Mesh.way("P22 way 0", x, 2, 0, 1);
        Mesh.way("P22 way 1", x, 2, 1, 11, 21);
        x.release(1);
        Check.answers("P22 way 1 can be moved", 2, () -> x.move());
        Mesh.way("P22 way 0 stays", x, 2, 0, 1);
        Mesh.way("P22 way 1 is moved", x, 2, 1, 10, 20);
        x.cut(0);
        x.cut(1);
        x.release(0);
        Check.answers("P22 way 0, though it is cut", 2, () -> x.move());
        Mesh.way("P22 way 0 is moved", x, 2, 0, 0);
        Check.fails("P22 both are on wavelength 0", Check.STATE, () -> x.move());
        Check.answers("P16 it is down", 1, () -> x.state(2));
    }

    private static void moveTakesOneAtATime() {
        Opticmesh x = Mesh.with(2, 8, new int[][] {{0, 1, 5}, {0, 1, 6}});
        for (int light = 0; light < 4; light++) {
            x.request(0, 1, 10, 2);
        }
        x.release(0);
        x.release(1);
        for (int light = 2; light < 4; light++) {
            int number = light;
            int channel = light - 2;
            Check.answers("P22 way 0 of light " + light, number, () -> x.move());
            Mesh.way("P22 way 0", x, number, 0, channel);
            Mesh.way("P22 way 1", x, number, 1, 10 + number);
            Check.answers("P22 way 1 of light " + light, number, () -> x.move());
            Mesh.way("P22 way 1", x, number, 1, 10 + channel);
        }
        Check.fails("P22 all are moved", Check.STATE, () -> x.move());
    }

    // ---- wavelengthsNeeded

    private static void neededByNone() {
        Opticmesh x = new Opticmesh();
        Check.answers("P23 without fibres", 0, () -> x.wavelengthsNeeded());
        x.addFibre(0, 1, 5);
        Check.answers("P23 without lights", 0, () -> x.wavelengthsNeeded());
        x.request(0, 1, 1, 0);
        Check.answers("P23 one light", 1, () -> x.wavelengthsNeeded());
        x.cut(0);
        Check.answers("P23 one that is down", 1, () -> x.wavelengthsNeeded());
        x.release(0);
        Check.answers("P23 one that is gone", 0, () -> x.wavelengthsNeeded());
    }

    private static void neededByManyOnOneFibre() {
        Opticmesh x = Mesh.with(2, 8, new int[][] {{0, 1, 5}});
        for (int light = 0; light < 8; light++) {
            int due = light + 1;
            x.request(0, 1, 10, 0);
            Check.answers("P23 " + due + " lights", due, () -> x.wavelengthsNeeded());
        }
        for (int light = 0; light < 8; light++) {
            int left = 7 - light;
            x.release(light);
            Check.answers("P23 " + left + " are left, on high wavelengths", left, () -> x.wavelengthsNeeded());
        }
    }

    /** In a ring of an odd number of nodes each light goes over two fibres: each fibre has two, and three are needed. */
    private static void neededByARing() {
        for (int nodes = 3; nodes <= 8; nodes++) {
            Opticmesh x = new Opticmesh();
            x.begin(nodes, 3);
            for (int node = 0; node < nodes; node++) {
                x.addFibre(node, (node + 1) % nodes, 1);
            }
            for (int node = 0; node < nodes; node++) {
                lightOverTwo(x, nodes, node);
            }
            int due = nodes % 2 == 0 ? 2 : 3;
            String what = "a ring of " + nodes;
            Check.answers("P15 " + what, nodes, () -> x.lights());
            Check.answers("P8 " + what, 2, () -> x.load());
            Check.answers("P23 " + what, due, () -> x.wavelengthsNeeded());
        }
    }

    /** A light from a node over the next two fibres of a ring; all other fibres are cut for the while. */
    private static void lightOverTwo(Opticmesh x, int nodes, int node) {
        int next = (node + 1) % nodes;
        for (int fibre = 0; fibre < nodes; fibre++) {
            if (fibre != node && fibre != next) {
                x.cut(fibre);
            }
        }
        x.request(node, (node + 2) % nodes, 10, 0);
        for (int fibre = 0; fibre < nodes; fibre++) {
            if (fibre != node && fibre != next) {
                x.repair(fibre);
            }
        }
    }

    private static void neededByConvertingWays() {
        Opticmesh x = Mesh.with(3, 2, new int[][] {{0, 1, 5}, {1, 2, 5}});
        x.toggleConverter(1);
        x.request(0, 1, 10, 0);
        x.request(1, 2, 10, 0);
        x.request(1, 2, 10, 0);
        x.release(1);
        x.request(0, 2, 10, 0);
        Mesh.way("P23 a way that converts", x, 3, 0, 1, 10);
        Check.answers("P23 it would need no conversion", 2, () -> x.wavelengthsNeeded());
        x.release(0);
        x.release(2);
        Check.answers("P23 alone it needs one", 1, () -> x.wavelengthsNeeded());
        Check.answers("P8 on each fibre it uses one", 1, () -> x.load());
    }

    private static void neededByWayZeroAlone() {
        Opticmesh x = Mesh.with(2, 8, new int[][] {{0, 1, 5}, {0, 1, 6}});
        for (int light = 0; light < 3; light++) {
            x.request(0, 1, 10, 2);
        }
        Check.answers("P23 three on fibre 0", 3, () -> x.wavelengthsNeeded());
        x.cut(0);
        x.request(0, 1, 10, 0);
        x.request(0, 1, 10, 0);
        Check.answers("P8 five on fibre 1", 5, () -> x.load());
        Check.answers("P23 three and two", 3, () -> x.wavelengthsNeeded());
        x.request(0, 1, 10, 0);
        x.request(0, 1, 10, 0);
        Check.answers("P23 three and four", 4, () -> x.wavelengthsNeeded());
        x.release(0);
        x.release(1);
        x.release(2);
        Check.answers("P23 four", 4, () -> x.wavelengthsNeeded());
    }

    private static void neededAfterEachCall() {
        Opticmesh x = Mesh.with(3, 4, new int[][] {{0, 1, 5}, {1, 2, 5}, {0, 2, 30}});
        x.request(0, 2, 6, 0);
        x.request(0, 2, 6, 0);
        x.request(0, 2, 4, 0);
        Check.answers("P23 two on two fibres", 2, () -> x.wavelengthsNeeded());
        x.release(0);
        x.merge();
        Check.answers("P23 after merge", 1, () -> x.wavelengthsNeeded());
        x.request(0, 1, 10, 0);
        x.request(0, 1, 10, 0);
        Check.answers("P23 three on fibre 0", 3, () -> x.wavelengthsNeeded());
        x.cut(1);
        Check.answers("P23 after cut", 3, () -> x.wavelengthsNeeded());
        x.reroute(0);
        Check.answers("P23 after reroute", 2, () -> x.wavelengthsNeeded());
        x.release(3);
        x.move();
        Check.answers("P23 after move", 1, () -> x.wavelengthsNeeded());
        x.begin(3, 4);
        Check.answers("P23 after begin", 0, () -> x.wavelengthsNeeded());
    }
}
