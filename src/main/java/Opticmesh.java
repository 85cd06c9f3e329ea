/** A planner of light paths in a network of fibres with wavelengths. */
public final class Opticmesh {

    private static final int MOST_NODES = 8;
    private static final int MOST_FIBRES = 14;
    private static final int MOST_LENGTH = 1000;
    private static final int MOST_WAVELENGTHS = 8;
    private static final int ALL_WAVELENGTHS = (1 << MOST_WAVELENGTHS) - 1;
    private static final int MOST_UNITS = 10;
    private static final int MOST_REQUESTS = 60;
    private static final int MOST_LIVING_LIGHTS = 12;

    // A way visits no node twice, so it has one channel less than there are nodes.
    private static final int MOST_CHANNELS = MOST_NODES - 1;

    // Leaving a node by one of its d fibres uses up all d of them, so there are at most as many
    // rows of fibres from node to node as the greatest product of numbers with the sum 14.
    private static final int MOST_WAYS = 162;

    private static final int PROTECTED = 2;

    private final Network network;
    private final WayFinder finder;
    private final Colouring colouring;
    private final Light[] lightList;
    private int lightCount;
    private final Light[] carriers;
    private final int[] demands;
    private int requestCount;

    public Opticmesh() {
        Network fresh = new Network();
        network = fresh;
        finder = new WayFinder(fresh);
        colouring = new Colouring();
        // Every light is made by a request, so there are never more lights than requests.
        lightList = new Light[MOST_REQUESTS];
        for (int light = 0; light < MOST_REQUESTS; light++) {
            lightList[light] = new Light(light);
        }
        carriers = new Light[MOST_REQUESTS];
        demands = new int[MOST_REQUESTS];
    }

    // ---- the network

    public void begin(int nodes, int wavelengths) throws IllegalArgumentException {
        if (nodes < 2 || nodes > MOST_NODES || wavelengths < 1 || wavelengths > MOST_WAVELENGTHS) {
            throw new IllegalArgumentException("nodes are 2 to 8 and wavelengths 1 to 8");
        }
        network.startAgain(nodes, wavelengths);
        lightCount = 0;
        requestCount = 0;
    }

    public int addFibre(int one, int other, int length) throws IllegalArgumentException, IllegalStateException {
        if (!areTwoNodes(one, other) || length < 1 || length > MOST_LENGTH) {
            throw new IllegalArgumentException("a fibre joins two nodes and has a length of 1 to 1000");
        }
        int fibre = network.join(one, other, length);
        if (fibre < 0) {
            throw new IllegalStateException("there are 14 fibres");
        }
        return fibre;
    }

    public boolean toggleConverter(int node) throws IllegalArgumentException {
        if (!network.hasNode(node)) {
            throw new IllegalArgumentException("no such node");
        }
        network.converters ^= 1 << node;
        return (network.converters >> node & 1) != 0;
    }

    public int cut(int fibre) throws IndexOutOfBoundsException, IllegalStateException {
        requireFibre(fibre);
        if (network.isCut(fibre)) {
            throw new IllegalStateException("the fibre is cut");
        }
        int before = lightsUp();
        network.cutFibres |= 1 << fibre;
        return before - lightsUp();
    }

    public int repair(int fibre) throws IndexOutOfBoundsException, IllegalStateException {
        requireFibre(fibre);
        if (!network.isCut(fibre)) {
            throw new IllegalStateException("the fibre is not cut");
        }
        int before = lightsUp();
        network.cutFibres &= ~(1 << fibre);
        return lightsUp() - before;
    }

    public int lightOn(int fibre, int wavelength) throws IndexOutOfBoundsException, IllegalArgumentException {
        requireFibre(fibre);
        if (wavelength < 0 || wavelength >= network.wavelengthCount) {
            throw new IllegalArgumentException("no such wavelength");
        }
        for (int light = 0; light < lightCount; light++) {
            if ((lightList[light].wavelengthsOn(fibre) >> wavelength & 1) != 0) {
                return light;
            }
        }
        return -1;
    }

    public int load() {
        int most = 0;
        for (int fibre = 0; fibre < network.fibreCount; fibre++) {
            most = Math.max(most, Integer.bitCount(wavelengthsUsed(fibre, null)));
        }
        return most;
    }

    public float usage() throws IllegalStateException {
        int channelCount = network.fibreCount * network.wavelengthCount;
        if (channelCount == 0) {
            throw new IllegalStateException("there are no fibres");
        }
        int used = 0;
        for (int fibre = 0; fibre < network.fibreCount; fibre++) {
            used += Integer.bitCount(wavelengthsUsed(fibre, null));
        }
        return (float) used / (float) channelCount;
    }

    // ---- requests

    public int request(int from, int to, int demand, int rule)
            throws IllegalArgumentException, IllegalStateException {
        if (!areTwoNodes(from, to) || !isRule(rule) || demand < 1 || demand > MOST_UNITS) {
            throw new IllegalArgumentException("a request has two nodes, a demand of 1 to 10 and a rule of 0 to 2");
        }
        if (requestCount >= MOST_REQUESTS) {
            throw new IllegalStateException("there have been 60 requests");
        }
        Light carrier = lightWithRoom(from, to, demand, rule == PROTECTED);
        if (carrier == null) {
            findWays(from, to, rule);
            carrier = lightOnFoundWays(from, to);
        }
        carrier.units += demand;
        carriers[requestCount] = carrier;
        demands[requestCount] = demand;
        return requestCount++;
    }

    public int newLength(int from, int to, int rule) throws IllegalArgumentException, IllegalStateException {
        if (!areTwoNodes(from, to) || !isRule(rule)) {
            throw new IllegalArgumentException("a light joins two nodes by a rule of 0 to 2");
        }
        findWays(from, to, rule);
        Way first = finder.first;
        if (first == null) {
            throw new IllegalStateException("there is no such way or pair of ways");
        }
        Way second = finder.second;
        return second == null ? first.length : first.length + second.length;
    }

    public int release(int request) throws IndexOutOfBoundsException, IllegalStateException {
        Light carrier = carrierOf(request);
        carriers[request] = null;
        carrier.units -= demands[request];
        return carrier.units;
    }

    public int lightOf(int request) throws IndexOutOfBoundsException, IllegalStateException {
        return carrierOf(request).number;
    }

    public int requests() {
        return requestCount;
    }

    // ---- lights

    public int lights() {
        return lightCount;
    }

    public int state(int light) throws IndexOutOfBoundsException {
        Light asked = existingLight(light);
        if (asked.isGone()) {
            return 2;
        }
        return asked.isUp(network.cutFibres) ? 0 : 1;
    }

    public int units(int light) throws IndexOutOfBoundsException {
        return existingLight(light).units;
    }

    public int channels(int light, int way) throws IndexOutOfBoundsException {
        return wayOf(light, way).count;
    }

    public int channel(int light, int way, int place) throws IndexOutOfBoundsException {
        Way asked = wayOf(light, way);
        if (place < 0 || place >= asked.count) {
            throw new IndexOutOfBoundsException("no such place");
        }
        return asked.channelAt(place);
    }

    public int reroute(int light) throws IndexOutOfBoundsException, IllegalStateException {
        Light rerouted = existingLight(light);
        if (rerouted.isGone() || rerouted.isProtected) {
            throw new IllegalStateException("the light is gone or protected");
        }
        openChannels(rerouted);
        finder.findFirst(rerouted.from, rerouted.to);
        Way better = finder.first;
        if (better == null) {
            throw new IllegalStateException("there is no such way");
        }
        rerouted.first.become(better);
        return better.length;
    }

    public int merge() throws IllegalStateException {
        for (int low = 0; low < lightCount; low++) {
            for (int high = low + 1; high < lightCount; high++) {
                if (canMerge(lightList[low], lightList[high])) {
                    handOver(lightList[high], lightList[low]);
                    return high;
                }
            }
        }
        throw new IllegalStateException("no two lights can be merged");
    }

    public int move() throws IllegalStateException {
        for (int light = 0; light < lightCount; light++) {
            Light asked = lightList[light];
            if (lowerWavelength(asked.wayAt(0)) || lowerWavelength(asked.wayAt(1))) {
                return light;
            }
        }
        throw new IllegalStateException("no way can be moved");
    }

    public int wavelengthsNeeded() {
        colouring.clear();
        for (int light = 0; light < lightCount; light++) {
            if (!lightList[light].isGone()) {
                colouring.add(lightList[light].first.fibres);
            }
        }
        return colouring.leastColours();
    }

    // ---- what the calls share

    private boolean areTwoNodes(int one, int other) {
        return network.hasNode(one) && network.hasNode(other) && one != other;
    }

    private static boolean isRule(int rule) {
        return rule >= 0 && rule <= PROTECTED;
    }

    private void requireFibre(int fibre) {
        if (!network.hasFibre(fibre)) {
            throw new IndexOutOfBoundsException("no such fibre");
        }
    }

    private Light existingLight(int light) {
        if (light < 0 || light >= lightCount) {
            throw new IndexOutOfBoundsException("no such light");
        }
        return lightList[light];
    }

    private Way wayOf(int light, int way) {
        Way asked = existingLight(light).wayAt(way);
        if (asked == null) {
            throw new IndexOutOfBoundsException("the light has no such way");
        }
        return asked;
    }

    private Light carrierOf(int request) {
        if (request < 0 || request >= requestCount) {
            throw new IndexOutOfBoundsException("no such request");
        }
        Light carrier = carriers[request];
        if (carrier == null) {
            throw new IllegalStateException("the request has been released");
        }
        return carrier;
    }

    private int lightsUp() {
        int up = 0;
        for (int light = 0; light < lightCount; light++) {
            if (lightList[light].isUp(network.cutFibres)) {
                up++;
            }
        }
        return up;
    }

    private int livingLights() {
        int living = 0;
        for (int light = 0; light < lightCount; light++) {
            if (!lightList[light].isGone()) {
                living++;
            }
        }
        return living;
    }

    private int wavelengthsUsed(int fibre, Light leftOut) {
        int used = 0;
        for (int light = 0; light < lightCount; light++) {
            if (lightList[light] != leftOut) {
                used |= lightList[light].wavelengthsOn(fibre);
            }
        }
        return used;
    }

    private Light lightWithRoom(int from, int to, int demand, boolean isProtected) {
        for (int light = 0; light < lightCount; light++) {
            Light asked = lightList[light];
            if (asked.isUp(network.cutFibres) && asked.joins(from, to)
                    && asked.isProtected == isProtected && asked.units + demand <= MOST_UNITS) {
                return asked;
            }
        }
        return null;
    }

    private Light lightOnFoundWays(int from, int to) {
        Way first = finder.first;
        if (first == null) {
            throw new IllegalStateException("there is no such way or pair of ways");
        }
        if (livingLights() >= MOST_LIVING_LIGHTS || lightCount >= MOST_REQUESTS) {
            throw new IllegalStateException("there are 12 lights that are not gone");
        }
        Light made = lightList[lightCount];
        lightCount++;
        made.start(from, to, first, finder.second);
        return made;
    }

    private void findWays(int from, int to, int rule) {
        openChannels(null);
        if (rule == 0) {
            finder.findFirst(from, to);
        } else if (rule == 1) {
            finder.findOnLowestWavelength(from, to);
        } else {
            finder.findPair(from, to);
        }
    }

    /** Tells the finder which channels it may use: those of the light that is left out count as free. */
    private void openChannels(Light leftOut) {
        for (int fibre = 0; fibre < MOST_FIBRES; fibre++) {
            boolean closed = !network.hasFibre(fibre) || network.isCut(fibre);
            int existing = (1 << network.wavelengthCount) - 1;
            finder.open[fibre] = closed ? 0 : existing & ~wavelengthsUsed(fibre, leftOut);
        }
    }

    private boolean canMerge(Light low, Light high) {
        return low.isUp(network.cutFibres) && high.isUp(network.cutFibres)
                && !low.isProtected && !high.isProtected
                && low.joins(high.from, high.to) && low.units + high.units <= MOST_UNITS;
    }

    private void handOver(Light giver, Light taker) {
        for (int request = 0; request < requestCount; request++) {
            if (carriers[request] == giver) {
                carriers[request] = taker;
            }
        }
        taker.units += giver.units;
        giver.units = 0;
    }

    /** Moves a way to the lowest wavelength that is free for it; false if there is none. */
    private boolean lowerWavelength(Way way) {
        if (way == null || way.conversions > 0) {
            return false;
        }
        int used = 0;
        for (int fibre = 0; fibre < network.fibreCount; fibre++) {
            if (way.uses(fibre)) {
                used |= wavelengthsUsed(fibre, null);
            }
        }
        int lowest = lowestIn(~used);
        if (lowest >= way.firstWavelength()) {
            return false;
        }
        way.shiftTo(lowest);
        return true;
    }

    private static int lowestIn(int wavelengths) {
        int lowest = 0;
        while (lowest < MOST_WAVELENGTHS && (wavelengths >> lowest & 1) == 0) {
            lowest++;
        }
        return lowest;
    }

    /** Nodes and fibres; a set of nodes or fibres is a number with a bit for each. */
    private static final class Network {
        int nodeCount = 4;
        int wavelengthCount = 4;
        int fibreCount;
        int converters;
        int cutFibres;
        private final int[] ones = new int[MOST_FIBRES];
        private final int[] others = new int[MOST_FIBRES];
        private final int[] lengths = new int[MOST_FIBRES];

        void startAgain(int nodes, int wavelengths) {
            nodeCount = nodes;
            wavelengthCount = wavelengths;
            fibreCount = 0;
            converters = 0;
            cutFibres = 0;
        }

        /** Adds a fibre and returns its number, -1 if there is no place for it. */
        int join(int one, int other, int length) {
            int fibre = fibreCount;
            if (fibre >= MOST_FIBRES) {
                return -1;
            }
            ones[fibre] = one;
            others[fibre] = other;
            lengths[fibre] = length;
            fibreCount++;
            return fibre;
        }

        boolean hasNode(int node) {
            return node >= 0 && node < nodeCount;
        }

        boolean hasFibre(int fibre) {
            return fibre >= 0 && fibre < fibreCount;
        }

        boolean isCut(int fibre) {
            return (cutFibres >> fibre & 1) != 0;
        }

        /** The node at the other end of a fibre, -1 if the fibre does not end at this node. */
        int acrossFrom(int node, int fibre) {
            if (!hasFibre(fibre)) {
                return -1;
            }
            if (ones[fibre] == node) {
                return others[fibre];
            }
            return others[fibre] == node ? ones[fibre] : -1;
        }

        int lengthOf(int fibre) {
            return hasFibre(fibre) ? lengths[fibre] : 0;
        }
    }

    /**
     * A way. Its channels stand in one number, a byte for each, the last one in the lowest byte: so of
     * two ways with equally many channels the one with the lower number is ahead of the other one.
     */
    private static final class Way {
        int count;
        int length;
        int conversions;
        int fibres;
        private long channelBytes;

        void start(int wayLength, int wayConversions) {
            count = 0;
            length = wayLength;
            conversions = wayConversions;
            fibres = 0;
            channelBytes = 0L;
        }

        void append(int fibre, int wavelength) {
            channelBytes = channelBytes << 8 | (long) (10 * fibre + wavelength);
            fibres |= 1 << fibre;
            count++;
        }

        void become(Way model) {
            count = model.count;
            length = model.length;
            conversions = model.conversions;
            fibres = model.fibres;
            channelBytes = model.channelBytes;
        }

        int channelAt(int place) {
            return (int) (channelBytes >> 8 * (count - 1 - place)) & 255;
        }

        int firstWavelength() {
            return channelAt(0) % 10;
        }

        boolean uses(int fibre) {
            return (fibres >> fibre & 1) != 0;
        }

        int wavelengthsOn(int fibre) {
            if (!uses(fibre)) {
                return 0;
            }
            int wavelengths = 0;
            for (int place = 0; place < count; place++) {
                int channel = channelAt(place);
                if (channel / 10 == fibre) {
                    wavelengths |= 1 << channel % 10;
                }
            }
            return wavelengths;
        }

        /** Gives another wavelength to all channels of a way without conversions. */
        void shiftTo(int wavelength) {
            long step = wavelength - firstWavelength();
            for (int place = 0; place < count; place++) {
                channelBytes += step << 8 * place;
            }
        }

        boolean isAheadOf(Way other) {
            if (length != other.length) {
                return length < other.length;
            }
            if (conversions != other.conversions) {
                return conversions < other.conversions;
            }
            if (count != other.count) {
                return count < other.count;
            }
            return channelBytes < other.channelBytes;
        }
    }

    /** A light. Every demand is at least 1, so a light without units is one without demands: gone. */
    private static final class Light {
        final int number;
        final Way first = new Way();
        private final Way second = new Way();
        int from;
        int to;
        boolean isProtected;
        int units;

        Light(int itsNumber) {
            number = itsNumber;
        }

        /** Makes a light without demands; it has a second way if it is protected. */
        void start(int itsFrom, int itsTo, Way firstWay, Way secondWay) {
            from = itsFrom;
            to = itsTo;
            units = 0;
            first.become(firstWay);
            isProtected = secondWay != null;
            if (secondWay != null) {
                second.become(secondWay);
            }
        }

        boolean isGone() {
            return units == 0;
        }

        boolean isUp(int cutFibres) {
            if (isGone()) {
                return false;
            }
            return (first.fibres & cutFibres) == 0 || isProtected && (second.fibres & cutFibres) == 0;
        }

        boolean joins(int one, int other) {
            return from == one && to == other || from == other && to == one;
        }

        Way wayAt(int way) {
            if (isGone()) {
                return null;
            }
            if (way == 0) {
                return first;
            }
            return way == 1 && isProtected ? second : null;
        }

        int wavelengthsOn(int fibre) {
            if (isGone()) {
                return 0;
            }
            int wavelengths = first.wavelengthsOn(fibre);
            return isProtected ? wavelengths | second.wavelengthsOn(fibre) : wavelengths;
        }
    }

    /**
     * Finds ways through the open channels. It walks along every row of fibres that leads from the
     * one node to the other, and keeps of all ways along that row the one that is ahead.
     */
    private static final class WayFinder {
        /** What was found: null for none, and null for the second way unless a pair was asked for. */
        Way first;
        Way second;
        /** For each fibre the wavelengths that may be used, a bit for each. */
        final int[] open = new int[MOST_FIBRES];

        private final Network network;
        private int target;
        private int allowed;
        private int converters;
        private final int[] trail = new int[MOST_CHANNELS];
        private final int[] openOnTrail = new int[MOST_CHANNELS];
        private final boolean[] convertsBefore = new boolean[MOST_CHANNELS];
        /** At a place and a number: the wavelengths from which the rest needs at most so many conversions. */
        private final int[][] within = new int[MOST_CHANNELS][MOST_CHANNELS];
        private final Way[] kept = new Way[MOST_WAYS];
        private int keptCount;

        WayFinder(Network itsNetwork) {
            network = itsNetwork;
            for (int way = 0; way < MOST_WAYS; way++) {
                kept[way] = new Way();
            }
        }

        void findFirst(int from, int to) {
            aim(to, ALL_WAVELENGTHS, network.converters);
            walk(from, 1 << from, ALL_WAVELENGTHS, 0, 0);
            pickFirst();
        }

        void findOnLowestWavelength(int from, int to) {
            for (int wavelength = 0; wavelength < MOST_WAVELENGTHS; wavelength++) {
                aim(to, 1 << wavelength, 0);
                walk(from, 1 << from, ALL_WAVELENGTHS, 0, 0);
                pickFirst();
                if (first != null) {
                    return;
                }
            }
        }

        /**
         * Of the ways along one row of fibres only the one on the lowest wavelength is looked at:
         * another one is just as long, bars the same fibres, and stands behind it.
         */
        void findPair(int from, int to) {
            aim(to, ALL_WAVELENGTHS, 0);
            walk(from, 1 << from, ALL_WAVELENGTHS, 0, 0);
            first = null;
            second = null;
            for (int one = 0; one < keptCount; one++) {
                for (int other = one + 1; other < keptCount; other++) {
                    if ((kept[one].fibres & kept[other].fibres) == 0) {
                        offerPair(kept[one], kept[other]);
                    }
                }
            }
        }

        private void offerPair(Way one, Way other) {
            boolean inOrder = one.isAheadOf(other);
            Way ahead = inOrder ? one : other;
            Way behind = inOrder ? other : one;
            if (first == null || second == null || isPairAhead(ahead, behind, first, second)) {
                first = ahead;
                second = behind;
            }
        }

        private static boolean isPairAhead(Way ahead, Way behind, Way otherAhead, Way otherBehind) {
            int longer = ahead.length + behind.length - otherAhead.length - otherBehind.length;
            if (longer != 0) {
                return longer < 0;
            }
            return ahead.isAheadOf(otherAhead) || ahead == otherAhead && behind.isAheadOf(otherBehind);
        }

        private void pickFirst() {
            first = null;
            second = null;
            for (int way = 0; way < keptCount; way++) {
                if (first == null || kept[way].isAheadOf(first)) {
                    first = kept[way];
                }
            }
        }

        private void aim(int to, int wavelengths, int convertingNodes) {
            target = to;
            allowed = wavelengths;
            converters = convertingNodes;
            keptCount = 0;
        }

        /** Goes on from a node that light reaches on some wavelengths, after so many channels. */
        private void walk(int node, int visited, int reached, int place, int length) {
            if (node == target) {
                keep(place, length);
                return;
            }
            if (place >= MOST_CHANNELS) {
                return;
            }
            boolean converts = (converters >> node & 1) != 0;
            for (int fibre = 0; fibre < MOST_FIBRES; fibre++) {
                int next = network.acrossFrom(node, fibre);
                int usable = open[fibre] & allowed;
                int onward = converts ? usable : usable & reached;
                if (next >= 0 && (visited >> next & 1) == 0 && onward != 0) {
                    trail[place] = fibre;
                    openOnTrail[place] = usable;
                    convertsBefore[place] = converts;
                    walk(next, visited | 1 << next, onward, place + 1, length + network.lengthOf(fibre));
                }
            }
        }

        /** Keeps of all ways along the trail the one that is ahead. */
        private void keep(int count, int length) {
            if (keptCount >= MOST_WAYS || count < 1 || count > MOST_CHANNELS) {
                return;
            }
            countConversionsBackwards(count);
            int conversions = 0;
            while (conversions < count - 1 && within[0][conversions] == 0) {
                conversions++;
            }
            Way way = kept[keptCount];
            keptCount++;
            way.start(length, conversions);
            takeLowestWavelengths(way, count, conversions);
        }

        private void takeLowestWavelengths(Way way, int count, int conversions) {
            int left = conversions;
            int wavelength = lowestIn(within[0][left]);
            way.append(trail[0], wavelength);
            for (int place = 1; place < count; place++) {
                boolean mayConvert = left > 0 && convertsBefore[place];
                int staying = within[place][left] & 1 << wavelength;
                int next = lowestIn(mayConvert ? staying | within[place][left - 1] : staying);
                if (mayConvert && next != wavelength) {
                    left--;
                }
                wavelength = next;
                way.append(trail[place], wavelength);
            }
        }

        private void countConversionsBackwards(int count) {
            for (int place = count - 1; place >= 0; place--) {
                for (int conversions = 0; conversions < count; conversions++) {
                    within[place][conversions] = openOnTrail[place] & leadingOn(place + 1, count, conversions);
                }
            }
        }

        /** The wavelengths before a place from which the rest of the trail needs at most so many conversions. */
        private int leadingOn(int place, int count, int conversions) {
            if (place >= count || place >= MOST_CHANNELS) {
                return ALL_WAVELENGTHS;
            }
            if (conversions > 0 && convertsBefore[place] && within[place][conversions - 1] != 0) {
                return ALL_WAVELENGTHS;
            }
            return within[place][conversions];
        }
    }

    /** Ways, each with its set of fibres, that want colours so that no two on one fibre have the same. */
    private static final class Colouring {
        private final int[] fibres = new int[MOST_LIVING_LIGHTS];
        private final int[] fibresTaken = new int[MOST_LIVING_LIGHTS];
        private int count;

        void clear() {
            count = 0;
        }

        void add(int itsFibres) {
            if (count < MOST_LIVING_LIGHTS) {
                fibres[count] = itsFibres;
                count++;
            }
        }

        int leastColours() {
            int colours = waysOnBusiestFibre();
            while (colours < count && !canPaint((1 << count) - 1, 0, 0, colours)) {
                colours++;
            }
            return colours;
        }

        private int waysOnBusiestFibre() {
            int most = 0;
            for (int fibre = 0; fibre < MOST_FIBRES; fibre++) {
                int ways = 0;
                for (int way = 0; way < count; way++) {
                    ways += fibres[way] >> fibre & 1;
                }
                most = Math.max(most, ways);
            }
            return most;
        }

        /** Whether the ways left can be painted too; the first so many colours have been used. */
        private boolean canPaint(int left, int painted, int used, int colours) {
            if (painted >= count) {
                return true;
            }
            int way = mostBarred(left, used);
            // Colours not used yet are all alike, so only the first of them is tried.
            for (int colour = 0; colour <= used && colour < colours; colour++) {
                if ((fibresTaken[colour] & fibres[way]) == 0) {
                    fibresTaken[colour] |= fibres[way];
                    int usedThen = Math.max(used, colour + 1);
                    boolean done = canPaint(left & ~(1 << way), painted + 1, usedThen, colours);
                    fibresTaken[colour] &= ~fibres[way];
                    if (done) {
                        return true;
                    }
                }
            }
            return false;
        }

        /** The way for which the most colours are barred: begun with it, a dead end shows early. */
        private int mostBarred(int left, int used) {
            int chosen = 0;
            int most = -1;
            for (int way = 0; way < count; way++) {
                if ((left >> way & 1) != 0) {
                    int barred = 0;
                    for (int colour = 0; colour < used; colour++) {
                        barred += (fibresTaken[colour] & fibres[way]) != 0 ? 1 : 0;
                    }
                    if (barred > most) {
                        most = barred;
                        chosen = way;
                    }
                }
            }
            return chosen;
        }
    }
}
