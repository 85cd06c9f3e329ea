/** Promises 10 to 14: requests. */
public final class RequestsTest {

    public static void main(String[] args) {
        requestNumbers();
        requestOutOfRange();
        groomingHasRoom();
        groomingBothOrders();
        groomingLowestLight();
        groomingAsksForProtection();
        groomingPassesDownAndGone();
        ruleZeroLengthFirst();
        ruleZeroConversionsNext();
        ruleZeroChannelsNext();
        ruleZeroFibreThenWavelength();
        ruleZeroVisitsNoNodeTwice();
        ruleZeroFewestConversionsOfAll();
        ruleOneLowestWavelength();
        ruleTwoShortestPair();
        ruleTwoTies();
        ruleTwoWithoutConversions();
        ruleTwoImpossible();
        longestWays();
        mostRowsOfFibres();
        sixtyRequests();
        twelveLights();
        newLength();
        newLengthAsksForNoRoom();
        newLengthOutOfRange();
        release();
        releaseImpossible();
        lightOf();
        requests();
        Check.end("RequestsTest");
    }

    private static void requestNumbers() {
        Opticmesh x = Mesh.with(3, 2, new int[][] {{0, 1, 5}});
        Check.answers("P10 request 0", 0, () -> x.request(0, 1, 10, 0));
        Check.fails("P10 no way", Check.STATE, () -> x.request(0, 2, 1, 0));
        Check.answers("P10 request 1", 1, () -> x.request(0, 1, 1, 1));
        Check.fails("P10 no channel is free", Check.STATE, () -> x.request(0, 1, 10, 1));
        Check.answers("P10 a refused request is none", 2, () -> x.request(0, 1, 9, 1));
        x.release(2);
        Check.answers("P10 released numbers are not used again", 3, () -> x.request(0, 1, 9, 1));
    }

    private static void requestOutOfRange() {
        Opticmesh x = Mesh.with(3, 2, new int[][] {{0, 1, 5}, {0, 1, 5}});
        int[][] wrong = {{-1, 1, 1, 0}, {0, -1, 1, 0}, {3, 1, 1, 0}, {0, 3, 1, 0}, {1, 1, 1, 0}, {0, 1, 0, 0},
            {0, 1, 11, 0}, {0, 1, -1, 0}, {0, 1, 1, -1}, {0, 1, 1, 3}, {Integer.MIN_VALUE, 1, 1, 0},
            {0, Integer.MAX_VALUE, 1, 0}, {0, 1, Integer.MAX_VALUE, 0}, {0, 1, 1, Integer.MAX_VALUE}};
        for (int[] row : wrong) {
            Check.fails("P10 request out of range", Check.ARGUMENT,
                () -> x.request(row[0], row[1], row[2], row[3]));
        }
        Check.fails("P10 the argument goes first", Check.ARGUMENT, () -> x.request(0, 2, 0, 0));
        Check.answers("P10 nothing was granted", 0, () -> x.requests());
        Check.answers("P10 no light was made", 0, () -> x.lights());
        Check.answers("P10 demand 1", 0, () -> x.request(0, 1, 1, 0));
        Check.answers("P10 demand 10, rule 2", 1, () -> x.request(0, 1, 10, 2));
    }

    private static void groomingHasRoom() {
        Opticmesh x = Mesh.with(2, 4, new int[][] {{0, 1, 5}});
        x.request(0, 1, 4, 0);
        x.request(0, 1, 6, 1);
        Check.answers("P10 room for 10 units together", 0, () -> x.lightOf(1));
        x.request(0, 1, 1, 0);
        Check.answers("P10 no room for an eleventh", 1, () -> x.lightOf(2));
        x.release(0);
        x.request(0, 1, 4, 0);
        Check.answers("P10 room that was released", 0, () -> x.lightOf(3));
        x.request(0, 1, 9, 0);
        Check.answers("P10 room beside 1 unit", 1, () -> x.lightOf(4));
        Check.answers("P10 all units", 10, () -> x.units(1));
    }

    private static void groomingBothOrders() {
        Opticmesh x = Mesh.with(3, 4, new int[][] {{0, 1, 5}, {1, 2, 5}});
        x.request(0, 2, 1, 0);
        x.request(2, 0, 1, 0);
        Check.answers("P10 the same ends in the other order", 0, () -> x.lightOf(1));
        x.request(0, 1, 1, 0);
        Check.answers("P10 one end alike is not enough", 1, () -> x.lightOf(2));
        x.request(1, 2, 1, 0);
        Check.answers("P10 nor the other end", 2, () -> x.lightOf(3));
        Mesh.way("P10 a light that began with 0", x, 0, 0, 0, 10);
        x.request(2, 0, 9, 0);
        Mesh.way("P10 a light that began with 2", x, 3, 0, 12, 2);
    }

    private static void groomingLowestLight() {
        Opticmesh x = Mesh.with(2, 4, new int[][] {{0, 1, 5}});
        x.request(0, 1, 7, 0);
        x.request(0, 1, 6, 0);
        x.request(0, 1, 5, 0);
        x.request(0, 1, 3, 0);
        Check.answers("P10 the lowest light with room", 0, () -> x.lightOf(3));
        x.request(0, 1, 3, 0);
        Check.answers("P10 light 1 then", 1, () -> x.lightOf(4));
        x.request(0, 1, 5, 0);
        Check.answers("P10 light 2 then", 2, () -> x.lightOf(5));
    }

    private static void groomingAsksForProtection() {
        Opticmesh x = Mesh.with(2, 4, new int[][] {{0, 1, 5}, {0, 1, 5}});
        x.request(0, 1, 1, 2);
        x.request(0, 1, 1, 0);
        Check.answers("P10 not protected", 1, () -> x.lightOf(1));
        x.request(0, 1, 1, 2);
        Check.answers("P10 protected", 0, () -> x.lightOf(2));
        x.request(1, 0, 1, 1);
        Check.answers("P10 not protected by rule 1", 1, () -> x.lightOf(3));
    }

    private static void groomingPassesDownAndGone() {
        Opticmesh x = Mesh.with(2, 4, new int[][] {{0, 1, 5}, {0, 1, 6}});
        x.request(0, 1, 1, 0);
        x.cut(0);
        x.request(0, 1, 1, 0);
        Check.answers("P10 a down light takes nothing", 1, () -> x.lightOf(1));
        x.repair(0);
        x.request(0, 1, 1, 0);
        Check.answers("P10 an up light does", 0, () -> x.lightOf(2));
        x.release(0);
        x.release(2);
        x.request(0, 1, 1, 0);
        Check.answers("P10 a light that is gone doesn't", 1, () -> x.lightOf(3));
        x.request(0, 1, 1, 2);
        x.cut(0);
        x.request(0, 1, 1, 2);
        Check.answers("P10 a protected light with one way is up", 2, () -> x.lightOf(5));
    }

    private static void ruleZeroLengthFirst() {
        Opticmesh x = Mesh.with(3, 2, new int[][] {{0, 2, 9}, {0, 1, 4}, {1, 2, 4}});
        x.request(0, 2, 10, 0);
        Mesh.way("P10 the shorter way has more channels", x, 0, 0, 10, 20);
        x.request(1, 2, 10, 0);
        x.toggleConverter(1);
        x.request(0, 2, 10, 0);
        Mesh.way("P10 the longer way when the shorter is used", x, 2, 0, 0);
    }

    private static void ruleZeroConversionsNext() {
        Opticmesh x = Mesh.with(3, 2, new int[][] {{0, 1, 4}, {1, 2, 4}, {0, 1, 4}, {1, 2, 4}});
        x.toggleConverter(1);
        x.request(0, 1, 10, 0);
        x.request(0, 1, 10, 1);
        x.request(1, 2, 10, 0);
        Mesh.way("P10 light 0", x, 0, 0, 0);
        Mesh.way("P10 light 1", x, 1, 0, 20);
        Mesh.way("P10 light 2", x, 2, 0, 10);
        x.request(0, 2, 10, 0);
        Mesh.way("P10 no conversion goes ahead of lower fibres", x, 3, 0, 1, 11);
        Opticmesh y = Mesh.with(4, 2, new int[][] {{0, 1, 5}, {1, 2, 5}, {0, 3, 3}, {3, 1, 2}});
        y.toggleConverter(1);
        y.request(0, 1, 10, 0);
        y.request(1, 2, 10, 0);
        y.request(1, 2, 10, 0);
        y.release(1);
        y.request(0, 2, 10, 0);
        Mesh.way("P10 no conversion goes ahead of fewer channels", y, 3, 0, 20, 30, 10);
    }

    private static void ruleZeroChannelsNext() {
        Opticmesh x = Mesh.with(3, 2, new int[][] {{0, 1, 4}, {1, 2, 4}, {0, 2, 8}});
        x.request(0, 2, 10, 0);
        Mesh.way("P10 fewer channels", x, 0, 0, 20);
        x.request(0, 2, 10, 0);
        Mesh.way("P10 fewer channels go ahead of lower channels", x, 1, 0, 21);
        x.request(0, 2, 10, 0);
        Mesh.way("P10 more channels", x, 2, 0, 0, 10);
    }

    private static void ruleZeroFibreThenWavelength() {
        Opticmesh x = Mesh.with(3, 2, new int[][] {{0, 1, 4}, {1, 2, 4}, {1, 2, 4}, {0, 1, 4}});
        x.request(0, 2, 10, 0);
        Mesh.way("P10 the lowest fibres", x, 0, 0, 0, 10);
        x.request(1, 2, 10, 0);
        Mesh.way("P10 the lower fibre goes ahead of the lower wavelength", x, 1, 0, 11);
        x.request(0, 2, 10, 0);
        Mesh.way("P10 the first place where they differ", x, 2, 0, 1, 21);
        Opticmesh y = Mesh.with(3, 3, new int[][] {{0, 1, 4}, {1, 2, 4}});
        y.toggleConverter(1);
        y.request(0, 1, 10, 0);
        y.request(1, 2, 10, 0);
        y.request(1, 2, 10, 0);
        y.request(1, 2, 10, 0);
        y.release(1);
        y.request(0, 2, 10, 0);
        Mesh.way("P10 the lowest wavelengths", y, 4, 0, 1, 10);
    }

    private static void ruleZeroVisitsNoNodeTwice() {
        // From node 1 light could go to node 3, convert there, and come back on another wavelength.
        Opticmesh x = Mesh.with(4, 2, new int[][] {{0, 1, 4}, {1, 2, 4}, {1, 3, 1}});
        x.toggleConverter(3);
        x.request(0, 1, 10, 0);
        x.request(1, 2, 10, 0);
        x.request(1, 2, 10, 0);
        x.release(1);
        Check.fails("P10 no node twice", Check.STATE, () -> x.request(0, 2, 10, 0));
        x.toggleConverter(0);
        x.toggleConverter(2);
        Check.fails("P10 the ends' conversion is of no use", Check.STATE, () -> x.request(0, 2, 10, 0));
    }

    /** A row of four nodes with three wavelengths, of which each fibre has only these open. */
    private static Opticmesh rowWithOpen(int[][] open) {
        Opticmesh x = Mesh.with(4, 3, new int[][] {{0, 1, 5}, {1, 2, 5}, {2, 3, 5}});
        for (int fibre = 0; fibre < 3; fibre++) {
            for (int wavelength = 0; wavelength < 3; wavelength++) {
                x.request(fibre, fibre + 1, 10, 0);
            }
        }
        for (int fibre = 0; fibre < 3; fibre++) {
            for (int wavelength : open[fibre]) {
                x.release(3 * fibre + wavelength);
            }
        }
        x.toggleConverter(1);
        x.toggleConverter(2);
        return x;
    }

    private static void ruleZeroFewestConversionsOfAll() {
        Opticmesh x = rowWithOpen(new int[][] {{1}, {0, 1}, {2}});
        x.request(0, 3, 10, 0);
        Mesh.way("P10 late conversion", x, 9, 0, 1, 11, 22);
        Opticmesh y = rowWithOpen(new int[][] {{2}, {1}, {0, 1}});
        y.request(0, 3, 10, 0);
        Mesh.way("P10 early conversion", y, 9, 0, 2, 11, 21);
        Opticmesh z = rowWithOpen(new int[][] {{0, 1, 2}, {1, 2}, {0, 2}});
        z.request(0, 3, 10, 0);
        Mesh.way("P10 no conversion, though on the highest wavelength", z, 9, 0, 2, 12, 22);
        z.request(0, 3, 10, 0);
        Mesh.way("P10 one conversion goes ahead of two", z, 10, 0, 1, 11, 20);
        Opticmesh w = rowWithOpen(new int[][] {{0, 1}, {0, 1}, {2}});
        w.request(0, 3, 10, 0);
        Mesh.way("P10 of equal ones the lowest wavelengths", w, 9, 0, 0, 10, 22);
        Opticmesh v = rowWithOpen(new int[][] {{0, 1}, {1, 2}, {2}});
        v.request(0, 3, 10, 0);
        Mesh.way("P10 the first wavelength counts most", v, 9, 0, 0, 12, 22);
        Opticmesh u = rowWithOpen(new int[][] {{0}, {1}, {2}});
        u.toggleConverter(2);
        Check.fails("P10 both nodes must convert", Check.STATE, () -> u.request(0, 3, 10, 0));
        u.toggleConverter(2);
        Check.answers("P10 both nodes convert", 9, () -> u.request(0, 3, 10, 0));
        Mesh.way("P10 two conversions", u, 9, 0, 0, 11, 22);
    }

    private static void ruleOneLowestWavelength() {
        Opticmesh x = Mesh.with(3, 2, new int[][] {{0, 2, 5}, {0, 1, 50}, {1, 2, 50}});
        x.request(0, 2, 10, 1);
        Mesh.way("P10 the shortest on wavelength 0", x, 0, 0, 0);
        x.request(0, 2, 10, 1);
        Mesh.way("P10 wavelength 0 goes ahead of length", x, 1, 0, 10, 20);
        x.request(0, 2, 10, 1);
        Mesh.way("P10 wavelength 1", x, 2, 0, 1);
        Opticmesh y = Mesh.with(3, 2, new int[][] {{0, 1, 5}, {1, 2, 5}});
        y.toggleConverter(1);
        y.request(0, 1, 10, 0);
        y.request(1, 2, 10, 0);
        y.request(1, 2, 10, 0);
        y.release(1);
        Check.fails("P10 rule 1 converts nowhere", Check.STATE, () -> y.request(0, 2, 10, 1));
    }

    private static void ruleTwoShortestPair() {
        // The first of all ways, 0-1-2-3, leaves no other: the pair does without it.
        Opticmesh x = Mesh.with(4, 2,
            new int[][] {{0, 1, 1}, {1, 2, 1}, {2, 3, 1}, {0, 2, 5}, {1, 3, 5}, {0, 3, 100}});
        x.request(0, 3, 10, 2);
        Mesh.way("P10 the first way of the pair", x, 0, 0, 0, 40);
        Mesh.way("P10 the second way of the pair", x, 0, 1, 30, 20);
        Check.answers("P10 the next pair", 12, () -> x.newLength(0, 3, 2));
        x.request(0, 3, 10, 2);
        Mesh.way("P10 the first way on wavelength 1", x, 1, 0, 1, 41);
        Check.fails("P10 one fibre is left", Check.STATE, () -> x.request(0, 3, 10, 2));
    }

    private static void ruleTwoTies() {
        Opticmesh x = Mesh.with(2, 2, new int[][] {{0, 1, 3}, {0, 1, 2}, {0, 1, 2}, {0, 1, 3}});
        x.request(0, 1, 10, 2);
        Mesh.way("P10 the shorter two, way 0", x, 0, 0, 10);
        Mesh.way("P10 the shorter two, way 1", x, 0, 1, 20);
        x.request(0, 1, 10, 0);
        Mesh.way("P10 beside them", x, 1, 0, 11);
        x.request(0, 1, 10, 2);
        Mesh.way("P10 of equal pairs the first second way, way 0", x, 2, 0, 21);
        Mesh.way("P10 of equal pairs the first second way, way 1", x, 2, 1, 0);
        Opticmesh y = Mesh.with(2, 1, new int[][] {{0, 1, 4}, {0, 1, 2}, {0, 1, 6}, {0, 1, 5}, {0, 1, 4}, {0, 1, 9}});
        y.cut(4);
        y.request(0, 1, 10, 2);
        Mesh.way("P10 way 0 is the one ahead", y, 0, 0, 10);
        Mesh.way("P10 way 1 is the one behind", y, 0, 1, 0);
        // From 1 and 2 to 3 and 4 straight, lengths 3 and 7, or crosswise, lengths 4 and 6.
        Opticmesh z = Mesh.with(6, 1, new int[][] {{0, 1, 1}, {1, 4, 2}, {1, 3, 1}, {4, 5, 1}, {3, 5, 1},
            {0, 2, 1}, {2, 3, 4}, {2, 4, 5}});
        z.request(0, 5, 10, 2);
        Mesh.way("P10 of equal pairs the first first way, way 0", z, 0, 0, 0, 20, 40);
        Mesh.way("P10 of equal pairs the first first way, way 1", z, 0, 1, 50, 70, 30);
        Opticmesh w = Mesh.with(6, 1, new int[][] {{0, 1, 1}, {1, 4, 1}, {1, 3, 1}, {4, 5, 1}, {3, 5, 1},
            {0, 2, 1}, {2, 3, 4}, {2, 4, 5}});
        w.request(0, 5, 10, 2);
        Mesh.way("P10 a pair shorter by 1, way 0", w, 0, 0, 0, 10, 30);
        Mesh.way("P10 a pair shorter by 1, way 1", w, 0, 1, 50, 60, 40);
        Opticmesh v = Mesh.with(6, 1, new int[][] {{0, 1, 1}, {1, 4, 3}, {1, 3, 1}, {4, 5, 1}, {3, 5, 1},
            {0, 2, 1}, {2, 3, 2}, {2, 4, 5}});
        v.request(0, 5, 10, 2);
        Mesh.way("P10 shorter goes ahead of the first first way, way 0", v, 0, 0, 50, 60, 40);
        Mesh.way("P10 shorter goes ahead of the first first way, way 1", v, 0, 1, 0, 10, 30);
    }

    private static void ruleTwoWithoutConversions() {
        Opticmesh x = Mesh.with(3, 2, new int[][] {{0, 1, 5}, {1, 2, 5}, {0, 2, 5}});
        x.toggleConverter(1);
        x.request(0, 1, 10, 0);
        x.request(1, 2, 10, 0);
        x.request(1, 2, 10, 0);
        x.release(1);
        Check.answers("P10 there is a way that converts", 5, () -> x.newLength(0, 2, 0));
        Check.fails("P10 a pair doesn't convert", Check.STATE, () -> x.request(0, 2, 10, 2));
        x.release(0);
        x.request(0, 2, 10, 2);
        Mesh.way("P10 way 0", x, 3, 0, 20);
        Mesh.way("P10 way 1", x, 3, 1, 0, 10);
        Opticmesh w = Mesh.with(3, 2, new int[][] {{1, 0, 5}, {0, 2, 5}, {1, 2, 5}});
        w.request(0, 1, 10, 0);
        w.request(0, 2, 10, 0);
        w.request(0, 2, 10, 0);
        w.release(1);
        Check.fails("P10 node 0 doesn't convert for a pair either", Check.STATE, () -> w.request(1, 2, 10, 2));
        Opticmesh y = Mesh.with(3, 2, new int[][] {{0, 1, 5}, {1, 2, 5}, {0, 2, 5}});
        y.request(0, 1, 10, 0);
        y.request(0, 2, 10, 2);
        Mesh.way("P10 one way on wavelength 0", y, 1, 0, 20);
        Mesh.way("P10 and the other on wavelength 1", y, 1, 1, 1, 11);
    }

    private static void ruleTwoImpossible() {
        Opticmesh x = Mesh.with(3, 8, new int[][] {{0, 1, 5}, {1, 2, 5}, {1, 2, 6}});
        Check.fails("P10 two wavelengths of one fibre are no pair", Check.STATE, () -> x.request(0, 1, 1, 2));
        Check.fails("P10 both ways need fibre 0", Check.STATE, () -> x.request(0, 2, 1, 2));
        x.addFibre(0, 2, 1);
        x.cut(3);
        Check.fails("P10 a cut fibre makes no pair", Check.STATE, () -> x.request(0, 2, 1, 2));
        x.repair(3);
        Check.answers("P10 a repaired one does", 0, () -> x.request(0, 2, 1, 2));
    }

    private static void longestWays() {
        Opticmesh x = new Opticmesh();
        x.begin(8, 8);
        for (int node = 7; node > 0; node--) {
            x.addFibre(node - 1, node, 1000);
            x.toggleConverter(node);
        }
        for (int fibre = 0; fibre < 7; fibre++) {
            x.addFibre(7 - fibre - 1, 7 - fibre, 1000);
        }
        Check.answers("P11 the longest way", 7000, () -> x.newLength(7, 0, 0));
        Check.answers("P11 the longest pair", 14000, () -> x.newLength(7, 0, 2));
        x.request(7, 0, 1, 2);
        Mesh.way("P10 the longest first way", x, 0, 0, 0, 10, 20, 30, 40, 50, 60);
        Mesh.way("P10 the longest second way", x, 0, 1, 70, 80, 90, 100, 110, 120, 130);
        for (int count = 0; count < 7; count++) {
            x.request(6, 7, 10, 0);
        }
        x.request(7, 0, 10, 0);
        Mesh.way("P10 a light without conversion over the upper fibre", x, 8, 0, 71, 11, 21, 31, 41, 51, 61);
    }

    private static void mostRowsOfFibres() {
        // The network with the most rows of fibres from node to node: 3 * 3 * 3 * 3 * 2 of them.
        Opticmesh x = new Opticmesh();
        x.begin(6, 8);
        int[] many = {2, 3, 3, 3, 3};
        for (int node = 0; node < 5; node++) {
            for (int fibre = 0; fibre < many[node]; fibre++) {
                x.addFibre(node, node + 1, fibre == many[node] - 1 ? 1 : fibre == 0 ? 9 : 2);
            }
        }
        Check.answers("P11 the last row of all", 5, () -> x.newLength(0, 5, 0));
        Check.answers("P11 the last pair of all", 5 + 9 + 4 * 2, () -> x.newLength(0, 5, 2));
        x.request(0, 5, 1, 2);
        Mesh.way("P10 way 0", x, 0, 0, 10, 40, 70, 100, 130);
        Mesh.way("P10 way 1", x, 0, 1, 0, 30, 60, 90, 120);
    }

    private static void sixtyRequests() {
        Opticmesh x = Mesh.with(2, 8, new int[][] {{0, 1, 5}});
        for (int count = 0; count < 60; count++) {
            int number = count;
            Check.answers("P10 request " + count, count, () -> x.request(0, 1, 1, 0));
            if (count < 50) {
                Check.answers("P12 release " + count, 0, () -> x.release(number));
            }
        }
        x.release(59);
        Check.fails("P10 a 61st request, though a light has room", Check.STATE, () -> x.request(0, 1, 1, 0));
        Check.fails("P10 the argument goes first", Check.ARGUMENT, () -> x.request(0, 1, 1, 3));
        Check.answers("P11 newLength doesn't ask", 5, () -> x.newLength(0, 1, 0));
        Check.answers("P14 sixty", 60, () -> x.requests());
        Check.answers("P15 fifty-one", 51, () -> x.lights());
        Check.answers("P16 the first one is gone", 2, () -> x.state(0));
    }

    private static void twelveLights() {
        Opticmesh x = Mesh.with(2, 8, new int[][] {{0, 1, 5}, {0, 1, 6}, {0, 1, 7}});
        for (int light = 0; light < 12; light++) {
            x.request(0, 1, 10, 0);
        }
        Check.fails("P10 a thirteenth light", Check.STATE, () -> x.request(0, 1, 1, 0));
        Check.answers("P11 newLength doesn't ask", 6, () -> x.newLength(0, 1, 0));
        Check.answers("P15 twelve", 12, () -> x.lights());
        x.release(3);
        Check.answers("P10 one of twelve is gone", 12, () -> x.request(0, 1, 1, 0));
        Check.answers("P13 light 12", 12, () -> x.lightOf(12));
        Check.answers("P10 a light that has room", 13, () -> x.request(0, 1, 9, 0));
        Check.fails("P10 twelve again", Check.STATE, () -> x.request(0, 1, 1, 0));
        x.cut(0);
        Check.fails("P10 down lights count", Check.STATE, () -> x.request(0, 1, 1, 0));
        Check.answers("P15 thirteen", 13, () -> x.lights());
    }

    private static void newLength() {
        Opticmesh x = Mesh.with(3, 2, new int[][] {{0, 2, 50}, {0, 1, 5}, {1, 2, 7}});
        Check.answers("P11 rule 0", 12, () -> x.newLength(0, 2, 0));
        Check.answers("P11 rule 1", 12, () -> x.newLength(0, 2, 1));
        Check.answers("P11 rule 2", 62, () -> x.newLength(2, 0, 2));
        x.request(0, 1, 10, 1);
        Check.answers("P11 rule 0 on wavelength 1", 12, () -> x.newLength(0, 2, 0));
        Check.answers("P11 rule 1 on wavelength 0", 50, () -> x.newLength(0, 2, 1));
        x.cut(1);
        Check.answers("P11 past a cut fibre", 50, () -> x.newLength(0, 2, 0));
        Check.fails("P11 no pair", Check.STATE, () -> x.newLength(0, 2, 2));
        x.cut(0);
        Check.fails("P11 no way", Check.STATE, () -> x.newLength(0, 2, 0));
        Check.fails("P11 no way by rule 1", Check.STATE, () -> x.newLength(0, 2, 1));
        Check.answers("P11 nothing was made", 1, () -> x.lights());
        Check.answers("P11 nothing was granted", 1, () -> x.requests());
    }

    private static void newLengthAsksForNoRoom() {
        Opticmesh x = Mesh.with(2, 2, new int[][] {{0, 1, 5}, {0, 1, 9}});
        x.request(0, 1, 1, 0);
        x.request(0, 1, 10, 0);
        Check.answers("P11 though light 0 has room", 9, () -> x.newLength(0, 1, 0));
        Check.answers("P11 the channel stays free", -1, () -> x.lightOn(1, 0));
    }

    private static void newLengthOutOfRange() {
        Opticmesh x = Mesh.with(3, 2, new int[][] {{0, 1, 5}});
        int[][] wrong = {{-1, 1, 0}, {0, -1, 0}, {3, 1, 0}, {0, 3, 0}, {1, 1, 0}, {0, 1, -1}, {0, 1, 3}, {2, 2, 0},
            {Integer.MAX_VALUE, 0, 0}, {0, Integer.MIN_VALUE, 0}, {0, 2, Integer.MIN_VALUE}};
        for (int[] row : wrong) {
            Check.fails("P11 newLength out of range", Check.ARGUMENT, () -> x.newLength(row[0], row[1], row[2]));
        }
    }

    private static void release() {
        Opticmesh x = Mesh.with(3, 2, new int[][] {{0, 1, 5}, {1, 2, 5}});
        x.request(0, 2, 3, 0);
        x.request(0, 2, 4, 0);
        x.request(0, 2, 2, 0);
        Check.answers("P12 6 units are left", 5, () -> x.release(1));
        Check.answers("P12 the light is up", 0, () -> x.state(0));
        Check.answers("P12 2 units are left", 2, () -> x.release(0));
        Check.answers("P12 the channels are used", 0, () -> x.lightOn(1, 0));
        Check.answers("P12 none is left", 0, () -> x.release(2));
        Check.answers("P12 the light is gone", 2, () -> x.state(0));
        Check.answers("P12 its channels are free", -1, () -> x.lightOn(1, 0));
        Check.answers("P12 the light still exists", 1, () -> x.lights());
        x.request(0, 2, 3, 0);
        Check.answers("P12 a new light gets its own number", 1, () -> x.lightOf(3));
        x.cut(0);
        Check.answers("P12 a down light can be released", 0, () -> x.release(3));
    }

    private static void releaseImpossible() {
        Opticmesh x = Mesh.with(2, 2, new int[][] {{0, 1, 5}});
        x.request(0, 1, 3, 0);
        x.request(0, 1, 4, 0);
        int[] wrong = {-1, 2, 60, Integer.MIN_VALUE, Integer.MAX_VALUE};
        for (int request : wrong) {
            Check.fails("P12 release " + request, Check.INDEX, () -> x.release(request));
        }
        x.release(0);
        Check.fails("P12 release again", Check.STATE, () -> x.release(0));
        Check.answers("P12 nothing has changed", 4, () -> x.units(0));
        x.begin(2, 2);
        Check.fails("P12 a request from before", Check.INDEX, () -> x.release(1));
    }

    private static void lightOf() {
        Opticmesh x = Mesh.with(3, 2, new int[][] {{0, 1, 5}, {1, 2, 5}});
        x.request(0, 1, 6, 0);
        x.request(1, 2, 6, 0);
        x.request(1, 0, 4, 0);
        Check.answers("P13 request 0", 0, () -> x.lightOf(0));
        Check.answers("P13 request 1", 1, () -> x.lightOf(1));
        Check.answers("P13 request 2", 0, () -> x.lightOf(2));
        int[] wrong = {-1, 3, 60, Integer.MIN_VALUE, Integer.MAX_VALUE};
        for (int request : wrong) {
            Check.fails("P13 lightOf " + request, Check.INDEX, () -> x.lightOf(request));
        }
        x.release(0);
        Check.fails("P13 it has been released", Check.STATE, () -> x.lightOf(0));
        Check.answers("P13 request 2 stays", 0, () -> x.lightOf(2));
        x.release(2);
        Check.fails("P13 the light is gone too", Check.STATE, () -> x.lightOf(2));
    }

    private static void requests() {
        Opticmesh x = Mesh.with(3, 1, new int[][] {{0, 1, 5}});
        Check.answers("P14 none", 0, () -> x.requests());
        x.request(0, 1, 6, 0);
        Check.answers("P14 one", 1, () -> x.requests());
        x.request(0, 1, 4, 0);
        Check.answers("P14 two on one light", 2, () -> x.requests());
        Check.fails("P14 a refused one", Check.STATE, () -> x.request(0, 1, 1, 0));
        Check.answers("P14 doesn't count", 2, () -> x.requests());
        x.release(0);
        x.release(1);
        Check.answers("P14 released ones do", 2, () -> x.requests());
        x.begin(3, 1);
        Check.answers("P14 begin", 0, () -> x.requests());
    }
}
