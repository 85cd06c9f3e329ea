/** The sentences of the section 'Terms', one test for each: ways, lights, requests, and the three rules. */
public final class TermsTest {

    public static void main(String[] args) {
        fibresLeadInBothDirections();
        severalFibresJoinTheSameNodes();
        usableIsFreeAndNotCut();
        visitsNoNodeTwice();
        theNodeBetweenConverts();
        lengthByOne();
        conversionsByOne();
        channelsByOne();
        fibresAreNumbers();
        theFirstPlaceWhereTheyDiffer();
        theLastPlaceDecides();
        waysLeadFromTheNodeNamedFirst();
        upOrDown();
        goneWithoutDemands();
        lowestLightThatIsUp();
        protectedJustIfAskedFor();
        ruleOneTakesTheLowestWavelength();
        ruleOneTakesTheFirstOfThem();
        ruleTwoOrdersThePair();
        ruleTwoTakesTheLeastTogether();
        ruleTwoOnSeveralWavelengths();
        goneOnesExist();
        whichExceptionGoesFirst();
        Check.end("TermsTest");
    }

    private static void fibresLeadInBothDirections() {
        Opticmesh x = Mesh.with(3, 4, new int[][] {{1, 0, 5}, {2, 1, 6}});
        Check.answers("P3 against both", 11, () -> x.newLength(0, 2, 0));
        Check.answers("P3 along both", 11, () -> x.newLength(2, 0, 0));
        x.request(0, 2, 10, 0);
        x.request(2, 0, 10, 1);
        Mesh.way("P10 from 0", x, 0, 0, 0, 10);
        Mesh.way("P10 from 2", x, 1, 0, 11, 1);
        Check.answers("P7 one channel, whatever its direction", 1, () -> x.lightOn(0, 1));
    }

    private static void severalFibresJoinTheSameNodes() {
        Opticmesh x = Mesh.with(3, 1, new int[][] {{0, 1, 5}, {1, 0, 5}, {0, 1, 5}, {1, 2, 5}});
        x.request(0, 2, 10, 0);
        Mesh.way("P10 the lowest of three", x, 0, 0, 0, 30);
        x.request(0, 1, 10, 2);
        Mesh.way("P10 the next two, way 0", x, 1, 0, 10);
        Mesh.way("P10 the next two, way 1", x, 1, 1, 20);
        Check.fails("P10 all are used", Check.STATE, () -> x.request(0, 1, 1, 0));
    }

    /** A fibre of length 5 beside one of length 9: the first one is taken just if it is free and not cut. */
    private static void usableIsFreeAndNotCut() {
        for (int rule = 0; rule <= 1; rule++) {
            int asked = rule;
            Opticmesh x = Mesh.with(2, 1, new int[][] {{0, 1, 5}, {0, 1, 9}});
            Check.answers("P11 free and whole", 5, () -> x.newLength(0, 1, asked));
            x.cut(0);
            Check.answers("P11 free but cut", 9, () -> x.newLength(0, 1, asked));
            x.repair(0);
            Check.answers("P11 free and repaired", 5, () -> x.newLength(0, 1, asked));
            x.request(0, 1, 10, 0);
            Check.answers("P11 used", 9, () -> x.newLength(0, 1, asked));
            x.cut(0);
            Check.answers("P11 used and cut", 9, () -> x.newLength(0, 1, asked));
            x.release(0);
            Check.answers("P11 free again but cut", 9, () -> x.newLength(0, 1, asked));
            x.repair(0);
            Check.answers("P11 free again and repaired", 5, () -> x.newLength(0, 1, asked));
        }
    }

    private static void visitsNoNodeTwice() {
        // A bridge from 0 to 1, and behind 1 a ring: a second way would have to come back over a node.
        Opticmesh x = Mesh.with(5, 2, new int[][] {{0, 1, 5}, {1, 2, 5}, {2, 3, 5}, {3, 1, 5}, {3, 4, 5}});
        x.request(1, 3, 10, 0);
        x.request(1, 3, 10, 0);
        Check.answers("P11 round the ring", 20, () -> x.newLength(0, 4, 0));
        x.cut(1);
        Check.fails("P11 no way", Check.STATE, () -> x.newLength(0, 4, 0));
        Opticmesh y = Mesh.with(3, 1, new int[][] {{0, 1, 5}, {0, 2, 1}, {0, 2, 1}});
        Check.answers("P11 no round from the first node and back", 5, () -> y.newLength(0, 1, 0));
        Check.fails("P11 nor for a pair", Check.STATE, () -> y.newLength(0, 1, 2));
        Opticmesh z = Mesh.with(3, 2, new int[][] {{0, 1, 5}, {1, 2, 1}, {1, 2, 1}});
        z.toggleConverter(2);
        Check.fails("P11 nor on from the last node and back", Check.STATE, () -> z.newLength(0, 1, 2));
        z.request(0, 1, 10, 0);
        Mesh.way("P10 it ends at the last node", z, 0, 0, 0);
    }

    /** A row of nodes: only the node between fibre 1 and fibre 2 stands between different wavelengths. */
    private static void theNodeBetweenConverts() {
        for (int converter = -1; converter < 4; converter++) {
            Opticmesh x = Mesh.with(4, 2, new int[][] {{0, 1, 5}, {1, 2, 5}, {2, 3, 5}});
            x.request(0, 2, 10, 0);
            x.request(2, 3, 10, 0);
            x.request(2, 3, 10, 0);
            x.release(1);
            if (converter >= 0) {
                x.toggleConverter(converter);
            }
            if (converter == 2) {
                Check.answers("P10 node 2 converts", 3, () -> x.request(0, 3, 10, 0));
                Mesh.way("P10 at node 2", x, 3, 0, 1, 11, 20);
            } else {
                Check.fails("P10 node " + converter + " converts", Check.STATE, () -> x.request(0, 3, 10, 0));
                Check.fails("P11 node " + converter + " converts", Check.STATE, () -> x.newLength(3, 0, 0));
            }
            Check.fails("P10 rule 1 doesn't convert", Check.STATE, () -> x.request(0, 3, 10, 1));
        }
    }

    private static void lengthByOne() {
        Opticmesh x = Mesh.with(8, 1, new int[][] {{0, 7, 8}, {0, 1, 1}, {1, 2, 1}, {2, 3, 1}, {3, 4, 1}, {4, 5, 1},
            {5, 6, 1}, {6, 7, 1}});
        x.request(0, 7, 10, 0);
        Mesh.way("P10 seven channels of length 7 go ahead of one of 8", x, 0, 0, 10, 20, 30, 40, 50, 60, 70);
        Opticmesh y = Mesh.with(8, 1, new int[][] {{0, 1, 1}, {1, 2, 1}, {2, 3, 1}, {3, 4, 1}, {4, 5, 1}, {5, 6, 1},
            {6, 7, 1}, {0, 7, 7}});
        y.request(0, 7, 10, 0);
        Mesh.way("P10 one channel goes ahead of seven of the same length", y, 0, 0, 70);
        Opticmesh z = Mesh.with(2, 1, new int[][] {{0, 1, 1000}, {0, 1, 999}});
        z.request(0, 1, 10, 0);
        Mesh.way("P10 999 goes ahead of 1000", z, 0, 0, 10);
    }

    /** Over fibres 0 and 1 light must convert once, over 2 and 3 it need not: these are as long, or longer by 1. */
    private static void conversionsByOne() {
        for (int more = 0; more <= 1; more++) {
            Opticmesh x = Mesh.with(4, 2, new int[][] {{0, 1, 5}, {1, 2, 5}, {0, 3, 5}, {3, 2, 5 + more}});
            x.toggleConverter(1);
            x.request(0, 1, 10, 0);
            x.request(1, 2, 10, 0);
            x.request(1, 2, 10, 0);
            x.release(1);
            x.request(0, 2, 10, 0);
            if (more == 0) {
                Mesh.way("P10 no conversion goes ahead of one", x, 3, 0, 20, 30);
            } else {
                Mesh.way("P10 but length goes ahead of conversions", x, 3, 0, 1, 10);
            }
        }
    }

    private static void channelsByOne() {
        Opticmesh x = Mesh.with(4, 2, new int[][] {{0, 1, 4}, {1, 2, 4}, {2, 3, 4}, {0, 2, 8}, {0, 3, 13}});
        x.request(0, 3, 10, 0);
        Mesh.way("P10 two channels go ahead of three", x, 0, 0, 30, 20);
        x.request(0, 3, 10, 0);
        Mesh.way("P10 on wavelength 1 too", x, 1, 0, 31, 21);
        x.request(0, 3, 10, 0);
        Mesh.way("P10 a longer one then", x, 2, 0, 40);
    }

    /** Fibre 9 stands before fibre 10, and fibre 12 before fibre 13, whatever their wavelengths are. */
    private static void fibresAreNumbers() {
        Opticmesh x = new Opticmesh();
        x.begin(2, 8);
        for (int fibre = 0; fibre < 14; fibre++) {
            x.addFibre(0, 1, fibre == 9 || fibre == 10 ? 1 : fibre > 11 ? 2 : 500);
        }
        for (int light = 0; light < 12; light++) {
            x.request(0, 1, 10, 0);
        }
        Mesh.way("P10 wavelength 7 of fibre 9", x, 7, 0, 97);
        Mesh.way("P10 then wavelength 0 of fibre 10", x, 8, 0, 100);
        x.cut(9);
        x.cut(10);
        for (int light = 0; light < 9; light++) {
            x.release(light);
        }
        for (int light = 12; light < 21; light++) {
            x.request(0, 1, 10, 0);
        }
        Mesh.way("P10 wavelength 7 of fibre 12", x, 19, 0, 127);
        Mesh.way("P10 then wavelength 0 of fibre 13", x, 20, 0, 130);
    }

    /** Fibre 0 on wavelength 0 goes ahead of it on wavelength 1, though a lower fibre could follow that one. */
    private static void theFirstPlaceWhereTheyDiffer() {
        Opticmesh x = Mesh.with(3, 2, new int[][] {{0, 1, 4}, {1, 2, 4}, {1, 2, 4}});
        x.request(1, 2, 10, 0);
        x.request(0, 2, 10, 0);
        Mesh.way("P10 a lower wavelength at the first place", x, 1, 0, 0, 20);
        x.request(0, 2, 10, 0);
        Mesh.way("P10 the lower fibre then", x, 2, 0, 1, 11);
        Opticmesh y = Mesh.with(3, 2, new int[][] {{0, 1, 4}, {0, 1, 4}, {1, 2, 4}});
        y.request(0, 1, 10, 0);
        y.request(0, 2, 10, 0);
        Mesh.way("P10 a lower fibre at the first place, though on wavelength 1", y, 1, 0, 1, 21);
    }

    private static void theLastPlaceDecides() {
        Opticmesh x = Mesh.with(4, 2, new int[][] {{2, 3, 4}, {2, 3, 4}, {1, 2, 4}, {0, 1, 4}, {2, 3, 3}});
        x.cut(4);
        x.request(0, 3, 10, 0);
        Mesh.way("P10 the lower fibre at the last place", x, 0, 0, 30, 20, 0);
        x.release(0);
        x.request(2, 3, 10, 0);
        x.toggleConverter(2);
        x.request(0, 3, 10, 0);
        Mesh.way("P10 no conversion goes ahead of the lower fibre", x, 2, 0, 30, 20, 10);
        x.repair(4);
        x.request(0, 3, 10, 0);
        Mesh.way("P10 the shorter last fibre", x, 3, 0, 31, 21, 41);
    }

    private static void waysLeadFromTheNodeNamedFirst() {
        Opticmesh x = Mesh.with(3, 2, new int[][] {{0, 1, 5}, {1, 2, 5}, {0, 2, 30}});
        x.request(2, 0, 4, 0);
        Mesh.way("P10 from 2 to 0", x, 0, 0, 10, 0);
        x.request(0, 2, 4, 0);
        Mesh.way("P10 another request in the other order", x, 0, 0, 10, 0);
        Check.answers("P12 the first request goes", 4, () -> x.release(0));
        Mesh.way("P12 the way stays", x, 0, 0, 10, 0);
        Check.answers("P20 reroute", 10, () -> x.reroute(0));
        Mesh.way("P20 from 2 to 0 still", x, 0, 0, 10, 0);
        x.request(2, 0, 4, 2);
        Mesh.way("P10 a pair, way 0", x, 1, 0, 11, 1);
        Mesh.way("P10 a pair, way 1", x, 1, 1, 20);
        x.request(0, 2, 7, 0);
        Mesh.way("P10 a light of its own, from 0 to 2", x, 2, 0, 21);
        Check.fails("P21 4 and 7 units", Check.STATE, () -> x.merge());
    }

    /** A light with one way on fibre 0, and a protected one with a way on fibre 0 and one on fibre 1. */
    private static void upOrDown() {
        for (int cuts = 0; cuts < 4; cuts++) {
            Opticmesh x = Mesh.with(2, 2, new int[][] {{0, 1, 5}, {0, 1, 5}});
            x.request(0, 1, 1, 0);
            x.request(0, 1, 1, 2);
            boolean first = (cuts & 1) != 0;
            boolean second = (cuts & 2) != 0;
            if (first) {
                Check.answers("P5 the plain one goes down", 1, () -> x.cut(0));
            }
            if (second) {
                Check.answers("P5 the protected one goes down", first ? 1 : 0, () -> x.cut(1));
            }
            Check.answers("P16 plain, cuts " + cuts, first ? 1 : 0, () -> x.state(0));
            Check.answers("P16 protected, cuts " + cuts, first && second ? 1 : 0, () -> x.state(1));
            Check.answers("P17 plain, cuts " + cuts, 1, () -> x.units(0));
            if (second) {
                Check.answers("P6 the protected one comes up", first ? 1 : 0, () -> x.repair(1));
            }
            if (first) {
                Check.answers("P6 the plain one comes up", 1, () -> x.repair(0));
            }
        }
    }

    private static void goneWithoutDemands() {
        Opticmesh x = Mesh.with(2, 1, new int[][] {{0, 1, 5}});
        x.request(0, 1, 9, 0);
        x.request(0, 1, 1, 0);
        Check.answers("P12 without its 9", 1, () -> x.release(0));
        Check.answers("P16 1 unit is enough", 0, () -> x.state(0));
        Check.fails("P11 its channel is used", Check.STATE, () -> x.newLength(0, 1, 0));
        Check.answers("P12 without its 1", 0, () -> x.release(1));
        Check.answers("P16 it is gone", 2, () -> x.state(0));
        Check.answers("P11 its channel is free", 5, () -> x.newLength(0, 1, 0));
        Check.answers("P15 it has been made", 1, () -> x.lights());
    }

    private static void lowestLightThatIsUp() {
        Opticmesh x = Mesh.with(3, 4, new int[][] {{0, 1, 5}, {0, 1, 6}, {1, 2, 5}});
        x.request(1, 2, 1, 0);
        x.request(0, 1, 6, 0);
        x.cut(0);
        x.request(0, 1, 6, 0);
        x.repair(0);
        Check.answers("P10 request 3", 3, () -> x.request(1, 0, 1, 1));
        Check.answers("P10 by the lowest of its ends", 1, () -> x.lightOf(3));
        x.cut(0);
        Check.answers("P10 request 4", 4, () -> x.request(0, 1, 4, 0));
        Check.answers("P10 by the lowest that is up", 2, () -> x.lightOf(4));
        x.repair(0);
        Check.answers("P10 request 5", 5, () -> x.request(0, 1, 3, 0));
        Check.answers("P10 by the lowest again", 1, () -> x.lightOf(5));
        Check.answers("P10 request 6", 6, () -> x.request(0, 1, 1, 0));
        Check.answers("P10 by a new one when all are full", 3, () -> x.lightOf(6));
        Check.answers("P10 request 7", 7, () -> x.request(0, 2, 1, 0));
        Check.answers("P10 by a new one for other ends", 4, () -> x.lightOf(7));
    }

    private static void protectedJustIfAskedFor() {
        Opticmesh x = Mesh.with(2, 4, new int[][] {{0, 1, 5}, {0, 1, 6}});
        x.request(0, 1, 1, 0);
        for (int rule = 0; rule <= 2; rule++) {
            x.request(1, 0, 1, rule);
        }
        int[] lights = {0, 0, 0, 1};
        for (int request = 0; request < 4; request++) {
            int asked = request;
            Check.answers("P13 request " + request, lights[request], () -> x.lightOf(asked));
        }
        Check.answers("P17 three not protected", 3, () -> x.units(0));
        Check.answers("P17 one protected", 1, () -> x.units(1));
        x.cut(1);
        x.cut(0);
        x.addFibre(0, 1, 7);
        Check.fails("P10 no protected one is up, no pair", Check.STATE, () -> x.request(0, 1, 1, 2));
        Check.answers("P10 none is up, but a way", 4, () -> x.request(0, 1, 1, 1));
        Check.answers("P13 a new one", 2, () -> x.lightOf(4));
    }

    private static void ruleOneTakesTheLowestWavelength() {
        Opticmesh x = Mesh.with(3, 8, new int[][] {{0, 1, 1}, {0, 2, 1000}, {2, 1, 1000}});
        for (int light = 0; light < 8; light++) {
            int number = light;
            x.request(0, 1, 10, 1);
            Check.answers("P10 light " + light, light % 2 == 0 ? 1 : 2, () -> x.channels(number, 0));
            Check.answers("P10 its wavelength", light / 2, () -> x.channel(number, 0, 0) % 10);
        }
        Opticmesh y = Mesh.with(3, 8, new int[][] {{0, 1, 5}, {1, 2, 5}});
        for (int light = 0; light < 7; light++) {
            y.request(light % 2, light % 2 + 1, 10, 1);
        }
        y.request(0, 2, 10, 1);
        Mesh.way("P10 the lowest that is free on both", y, 7, 0, 4, 14);
    }

    private static void ruleOneTakesTheFirstOfThem() {
        Opticmesh x = Mesh.with(4, 2, new int[][] {{0, 1, 3}, {1, 3, 3}, {0, 2, 3}, {2, 3, 3}, {0, 3, 6}});
        x.request(0, 3, 10, 1);
        Mesh.way("P10 the fewest channels", x, 0, 0, 40);
        x.request(0, 3, 10, 1);
        Mesh.way("P10 the lowest fibre", x, 1, 0, 0, 10);
        x.request(0, 3, 10, 1);
        Mesh.way("P10 the other one", x, 2, 0, 20, 30);
        x.request(0, 3, 10, 1);
        Mesh.way("P10 the next wavelength", x, 3, 0, 41);
    }

    private static void ruleTwoOrdersThePair() {
        Opticmesh x = Mesh.with(3, 1, new int[][] {{0, 1, 5}, {1, 2, 5}, {0, 2, 10}});
        x.request(0, 2, 10, 2);
        Mesh.way("P10 as long, with fewer channels, is way 0", x, 0, 0, 20);
        Mesh.way("P10 as long, with more channels, is way 1", x, 0, 1, 0, 10);
        Opticmesh y = Mesh.with(3, 1, new int[][] {{0, 1, 5}, {1, 2, 4}, {0, 2, 10}});
        y.request(0, 2, 10, 2);
        Mesh.way("P10 shorter by 1 is way 0", y, 0, 0, 0, 10);
        Mesh.way("P10 longer by 1 is way 1", y, 0, 1, 20);
        Opticmesh z = Mesh.with(2, 2, new int[][] {{0, 1, 5}, {0, 1, 5}});
        z.request(0, 1, 10, 0);
        z.request(0, 1, 10, 2);
        Mesh.way("P10 the lower fibre is way 0, though on wavelength 1", z, 1, 0, 1);
        Mesh.way("P10 the higher fibre is way 1, though on wavelength 0", z, 1, 1, 10);
    }

    private static void ruleTwoTakesTheLeastTogether() {
        // The shortest way of all, of length 3, leaves only one of length 40: together more than 12 and 13.
        Opticmesh x = Mesh.with(4, 1, new int[][] {{0, 1, 1}, {1, 2, 1}, {2, 3, 1}, {0, 2, 11}, {1, 3, 12},
            {0, 3, 40}});
        Check.answers("P11 together", 25, () -> x.newLength(0, 3, 2));
        x.request(0, 3, 10, 2);
        Mesh.way("P10 way 0", x, 0, 0, 30, 20);
        Mesh.way("P10 way 1", x, 0, 1, 0, 40);
        Opticmesh y = Mesh.with(4, 1, new int[][] {{0, 1, 1}, {1, 2, 1}, {2, 3, 1}, {0, 2, 11}, {1, 3, 12},
            {0, 3, 21}});
        Check.answers("P11 together with the shortest of all", 24, () -> y.newLength(0, 3, 2));
        y.request(0, 3, 10, 2);
        Mesh.way("P10 the shortest of all", y, 0, 0, 0, 10, 20);
        Mesh.way("P10 the direct fibre", y, 0, 1, 50);
    }

    private static void ruleTwoOnSeveralWavelengths() {
        Opticmesh x = Mesh.with(3, 3, new int[][] {{0, 1, 5}, {1, 2, 5}, {0, 2, 20}, {0, 2, 30}});
        x.request(0, 1, 10, 0);
        x.request(1, 2, 10, 0);
        x.request(1, 2, 10, 0);
        x.cut(1);
        x.request(0, 2, 10, 0);
        x.repair(1);
        x.request(0, 2, 10, 2);
        Mesh.way("P10 way 0 on wavelength 2", x, 4, 0, 2, 12);
        Mesh.way("P10 way 1 on wavelength 1", x, 4, 1, 21);
        x.request(0, 2, 10, 2);
        Mesh.way("P10 the next pair, way 0", x, 5, 0, 22);
        Mesh.way("P10 the next pair, way 1", x, 5, 1, 30);
        Check.fails("P10 one fibre's wavelengths are no pair", Check.STATE, () -> x.request(0, 2, 10, 2));
        Check.answers("P11 though there is a way", 30, () -> x.newLength(0, 2, 1));
    }

    private static void goneOnesExist() {
        Opticmesh x = Mesh.with(2, 1, new int[][] {{0, 1, 5}});
        x.request(0, 1, 1, 0);
        x.release(0);
        Check.answers("P16 a light that is gone", 2, () -> x.state(0));
        Check.answers("P17 a light that is gone", 0, () -> x.units(0));
        Check.fails("P20 a light that is gone", Check.STATE, () -> x.reroute(0));
        Check.fails("P12 a request that is released", Check.STATE, () -> x.release(0));
        Check.fails("P13 a request that is released", Check.STATE, () -> x.lightOf(0));
        Check.fails("P18 it has no way 0", Check.INDEX, () -> x.channels(0, 0));
        Check.fails("P19 it has no way 0", Check.INDEX, () -> x.channel(0, 0, 0));
    }

    private static void whichExceptionGoesFirst() {
        Opticmesh x = new Opticmesh();
        Check.fails("P7 no fibre, no wavelength", Check.INDEX, () -> x.lightOn(0, -1));
        Check.fails("P7 fibre and wavelength below 0", Check.INDEX, () -> x.lightOn(-1, -1));
        Check.fails("P10 no way and no demand", Check.ARGUMENT, () -> x.request(0, 1, 0, 0));
        Check.fails("P10 no way and no rule", Check.ARGUMENT, () -> x.request(0, 1, 1, 3));
        Check.fails("P11 no way and no rule", Check.ARGUMENT, () -> x.newLength(0, 1, 3));
        Check.fails("P11 no way from a node to itself", Check.ARGUMENT, () -> x.newLength(2, 2, 0));
        for (int fibre = 0; fibre < 14; fibre++) {
            x.addFibre(0, 1, 1);
        }
        Check.fails("P3 no place and no node", Check.ARGUMENT, () -> x.addFibre(0, 4, 1));
        Check.fails("P3 no place and no length", Check.ARGUMENT, () -> x.addFibre(0, 1, 0));
        Check.fails("P3 no place and the same node", Check.ARGUMENT, () -> x.addFibre(3, 3, 1));
        Check.fails("P3 no place", Check.STATE, () -> x.addFibre(0, 1, 1));
        for (int count = 0; count < 60; count++) {
            x.request(0, 1, 2, 0);
        }
        Check.fails("P10 sixty and no node", Check.ARGUMENT, () -> x.request(4, 1, 1, 0));
        Check.fails("P10 sixty and no demand", Check.ARGUMENT, () -> x.request(0, 1, 11, 0));
        Check.fails("P10 sixty, twelve, and no rule", Check.ARGUMENT, () -> x.request(0, 1, 1, -1));
        Check.fails("P10 sixty and twelve", Check.STATE, () -> x.request(0, 1, 1, 2));
        Check.fails("P7 a fibre, but no wavelength", Check.ARGUMENT, () -> x.lightOn(13, 4));
    }
}
