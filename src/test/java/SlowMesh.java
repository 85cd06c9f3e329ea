import java.util.ArrayList;
import java.util.Comparator;
import java.util.List;

/** The document once more, as plainly and slowly as can be: lists of all ways, put in order. */
final class SlowMesh {

    record Fibre(int one, int other, int length) {

        /** The node at the other end, -1 if the fibre does not end at this node. */
        int across(int node) {
            return node == one ? other : node == other ? one : -1;
        }
    }

    static final class Light {
        int from;
        int to;
        boolean isProtected;
        boolean gone;
        List<List<Integer>> ways = new ArrayList<>();
    }

    static final class Request {
        int demand;
        int light;
        boolean released;
    }

    private int nodes = 4;
    private int wavelengths = 4;
    private final List<Fibre> fibres = new ArrayList<>();
    private final List<Boolean> cuts = new ArrayList<>();
    private boolean[] converters = new boolean[8];
    private final List<Light> lights = new ArrayList<>();
    private final List<Request> requests = new ArrayList<>();

    void begin(int nodeCount, int wavelengthCount) {
        argument(nodeCount >= 2 && nodeCount <= 8 && wavelengthCount >= 1 && wavelengthCount <= 8);
        nodes = nodeCount;
        wavelengths = wavelengthCount;
        fibres.clear();
        cuts.clear();
        converters = new boolean[8];
        lights.clear();
        requests.clear();
    }

    int addFibre(int one, int other, int length) {
        argument(isNode(one) && isNode(other) && one != other && length >= 1 && length <= 1000);
        possible(fibres.size() < 14);
        fibres.add(new Fibre(one, other, length));
        cuts.add(false);
        return fibres.size() - 1;
    }

    boolean toggleConverter(int node) {
        argument(isNode(node));
        converters[node] = !converters[node];
        return converters[node];
    }

    int cut(int fibre) {
        index(fibre >= 0 && fibre < fibres.size());
        possible(!cuts.get(fibre));
        return Math.abs(changeCut(fibre, true));
    }

    int repair(int fibre) {
        index(fibre >= 0 && fibre < fibres.size());
        possible(cuts.get(fibre));
        return Math.abs(changeCut(fibre, false));
    }

    private int changeCut(int fibre, boolean isCut) {
        int before = countUp();
        cuts.set(fibre, isCut);
        return countUp() - before;
    }

    private int countUp() {
        int count = 0;
        for (int light = 0; light < lights.size(); light++) {
            count += state(light) == 0 ? 1 : 0;
        }
        return count;
    }

    int fibreCount() {
        return fibres.size();
    }

    int lightOn(int fibre, int wavelength) {
        index(fibre >= 0 && fibre < fibres.size());
        argument(wavelength >= 0 && wavelength < wavelengths);
        return user(10 * fibre + wavelength);
    }

    private int user(int channel) {
        for (int light = 0; light < lights.size(); light++) {
            if (!lights.get(light).gone) {
                for (List<Integer> way : lights.get(light).ways) {
                    if (way.contains(channel)) {
                        return light;
                    }
                }
            }
        }
        return -1;
    }

    private int usedOn(int fibre) {
        int used = 0;
        for (int wavelength = 0; wavelength < wavelengths; wavelength++) {
            used += user(10 * fibre + wavelength) >= 0 ? 1 : 0;
        }
        return used;
    }

    int load() {
        int most = 0;
        for (int fibre = 0; fibre < fibres.size(); fibre++) {
            most = Math.max(most, usedOn(fibre));
        }
        return most;
    }

    float usage() {
        possible(!fibres.isEmpty());
        int used = 0;
        for (int fibre = 0; fibre < fibres.size(); fibre++) {
            used += usedOn(fibre);
        }
        return (float) used / (float) (fibres.size() * wavelengths);
    }

    int request(int from, int to, int demand, int rule) {
        argument(isNode(from) && isNode(to) && from != to);
        argument(demand >= 1 && demand <= 10 && rule >= 0 && rule <= 2);
        possible(requests.size() < 60);
        int carrier = -1;
        for (int light = lights.size() - 1; light >= 0; light--) {
            if (state(light) == 0 && joins(lights.get(light), from, to)
                    && lights.get(light).isProtected == (rule == 2) && units(light) + demand <= 10) {
                carrier = light;
            }
        }
        if (carrier < 0) {
            List<List<Integer>> ways = newWays(from, to, rule);
            possible(ways != null);
            possible(lights.stream().filter(light -> !light.gone).count() < 12);
            Light made = new Light();
            made.from = from;
            made.to = to;
            made.isProtected = rule == 2;
            made.ways = ways;
            lights.add(made);
            carrier = lights.size() - 1;
        }
        Request granted = new Request();
        granted.demand = demand;
        granted.light = carrier;
        requests.add(granted);
        return requests.size() - 1;
    }

    int newLength(int from, int to, int rule) {
        argument(isNode(from) && isNode(to) && from != to && rule >= 0 && rule <= 2);
        List<List<Integer>> ways = newWays(from, to, rule);
        possible(ways != null);
        int length = 0;
        for (List<Integer> way : ways) {
            length += length(way);
        }
        return length;
    }

    int release(int request) {
        index(request >= 0 && request < requests.size());
        Request released = requests.get(request);
        possible(!released.released);
        released.released = true;
        int left = units(released.light);
        lights.get(released.light).gone = left == 0;
        return left;
    }

    int lightOf(int request) {
        index(request >= 0 && request < requests.size());
        possible(!requests.get(request).released);
        return requests.get(request).light;
    }

    int requests() {
        return requests.size();
    }

    int lights() {
        return lights.size();
    }

    int state(int light) {
        index(light >= 0 && light < lights.size());
        if (lights.get(light).gone) {
            return 2;
        }
        for (List<Integer> way : lights.get(light).ways) {
            if (way.stream().noneMatch(channel -> cuts.get(channel / 10))) {
                return 0;
            }
        }
        return 1;
    }

    int units(int light) {
        index(light >= 0 && light < lights.size());
        int sum = 0;
        for (Request request : requests) {
            sum += request.light == light && !request.released ? request.demand : 0;
        }
        return sum;
    }

    int channels(int light, int way) {
        index(light >= 0 && light < lights.size() && !lights.get(light).gone);
        index(way >= 0 && way < lights.get(light).ways.size());
        return lights.get(light).ways.get(way).size();
    }

    int channel(int light, int way, int place) {
        index(place >= 0 & place < channels(light, way));
        return lights.get(light).ways.get(way).get(place);
    }

    int reroute(int light) {
        index(light >= 0 && light < lights.size());
        Light rerouted = lights.get(light);
        possible(!rerouted.gone && !rerouted.isProtected);
        List<Integer> way = firstOfAll(rerouted.from, rerouted.to, light);
        possible(way != null);
        rerouted.ways.set(0, way);
        return length(way);
    }

    int merge() {
        for (int low = 0; low < lights.size(); low++) {
            for (int high = low + 1; high < lights.size(); high++) {
                Light lower = lights.get(low);
                Light higher = lights.get(high);
                if (state(low) == 0 && state(high) == 0 && !lower.isProtected && !higher.isProtected
                        && joins(lower, higher.from, higher.to) && units(low) + units(high) <= 10) {
                    for (Request request : requests) {
                        request.light = request.light == high ? low : request.light;
                    }
                    higher.gone = true;
                    return high;
                }
            }
        }
        throw new IllegalStateException();
    }

    int move() {
        for (int light = 0; light < lights.size(); light++) {
            if (!lights.get(light).gone) {
                for (List<Integer> way : lights.get(light).ways) {
                    if (movedDown(way)) {
                        return light;
                    }
                }
            }
        }
        throw new IllegalStateException();
    }

    private boolean movedDown(List<Integer> way) {
        if (conversions(way) > 0) {
            return false;
        }
        int now = way.get(0) % 10;
        for (int lower = 0; lower < now; lower++) {
            int wavelength = lower;
            if (way.stream().allMatch(channel -> user(channel / 10 * 10 + wavelength) < 0)) {
                way.replaceAll(channel -> channel / 10 * 10 + wavelength);
                return true;
            }
        }
        return false;
    }

    int wavelengthsNeeded() {
        List<List<Integer>> ways = new ArrayList<>();
        for (Light light : lights) {
            if (!light.gone) {
                ways.add(light.ways.get(0));
            }
        }
        int[] needed = new int[1 << ways.size()];
        boolean[] bearOne = new boolean[needed.length];
        for (int set = 1; set < needed.length; set++) {
            bearOne[set] = haveNoFibreTwice(ways, set);
            needed[set] = Integer.MAX_VALUE;
            for (int part = set; part > 0; part = (part - 1) & set) {
                if (bearOne[part]) {
                    needed[set] = Math.min(needed[set], 1 + needed[set & ~part]);
                }
            }
        }
        return needed[needed.length - 1];
    }

    private static boolean haveNoFibreTwice(List<List<Integer>> ways, int part) {
        int seen = 0;
        for (int way = 0; way < ways.size(); way++) {
            if ((part >> way & 1) != 0) {
                int fibres = fibreSet(ways.get(way));
                if ((seen & fibres) != 0) {
                    return false;
                }
                seen |= fibres;
            }
        }
        return true;
    }

    // ---- ways

    private List<List<Integer>> newWays(int from, int to, int rule) {
        if (rule == 2) {
            return firstPair(allWays(from, to, -1, false));
        }
        List<Integer> chosen = rule == 0 ? firstOfAll(from, to, -1) : null;
        for (int wavelength = 0; rule == 1 && wavelength < wavelengths && chosen == null; wavelength++) {
            int wanted = wavelength;
            chosen = first(allWays(from, to, -1, false).stream()
                    .filter(way -> way.stream().allMatch(channel -> channel % 10 == wanted)).toList());
        }
        if (chosen == null) {
            return null;
        }
        List<List<Integer>> ways = new ArrayList<>();
        ways.add(new ArrayList<>(chosen));
        return ways;
    }

    /** In a network with too many ways for a list, a table finds the first one; in others it must find the same. */
    private List<Integer> firstOfAll(int from, int to, int asFree) {
        List<Integer> byTable = new WayTable(fibres, openChannels(asFree), converters).first(from, to);
        if (nodes <= 4 || wavelengths <= (nodes <= 6 ? 3 : 2)) {
            List<Integer> byList = first(allWays(from, to, asFree, true));
            if (byList == null ? byTable != null : !byList.equals(byTable)) {
                throw new AssertionError("SlowMesh doesn't agree with itself");
            }
        }
        return byTable;
    }

    private List<List<Integer>> firstPair(List<List<Integer>> pure) {
        pure.sort(order());
        int[] lengths = pure.stream().mapToInt(this::length).toArray();
        int[] sets = pure.stream().mapToInt(SlowMesh::fibreSet).toArray();
        int least = Integer.MAX_VALUE;
        List<List<Integer>> best = null;
        for (int one = 0; one < sets.length; one++) {
            for (int other = one + 1; other < sets.length; other++) {
                if ((sets[one] & sets[other]) == 0 && lengths[one] + lengths[other] < least) {
                    least = lengths[one] + lengths[other];
                    best = new ArrayList<>();
                    best.add(new ArrayList<>(pure.get(one)));
                    best.add(new ArrayList<>(pure.get(other)));
                }
            }
        }
        return best;
    }

    private List<Integer> first(List<List<Integer>> ways) {
        return ways.stream().min(order()).map(way -> (List<Integer>) new ArrayList<>(way)).orElse(null);
    }

    /** Which channels are usable if those of one light count as free. */
    private boolean[] openChannels(int asFree) {
        boolean[] open = new boolean[140];
        for (int channel = 0; channel < 10 * fibres.size(); channel++) {
            int user = user(channel);
            open[channel] = channel % 10 < wavelengths && !cuts.get(channel / 10) && (user < 0 || user == asFree);
        }
        return open;
    }

    private List<List<Integer>> allWays(int from, int to, int asFree, boolean mayConvert) {
        List<List<Integer>> all = new ArrayList<>();
        boolean[] converts = mayConvert ? converters : new boolean[8];
        goOn(from, to, 1 << from, new ArrayList<>(), openChannels(asFree), converts, all);
        return all;
    }

    private void goOn(int node, int to, int seen, List<Integer> way, boolean[] open, boolean[] converts,
            List<List<Integer>> all) {
        if (node == to) {
            all.add(new ArrayList<>(way));
            return;
        }
        for (int channel = 0; channel < 10 * fibres.size(); channel++) {
            int next = fibres.get(channel / 10).across(node);
            boolean fits = way.isEmpty() || converts[node] || way.get(way.size() - 1) % 10 == channel % 10;
            if (open[channel] && next >= 0 && (seen >> next & 1) == 0 && fits) {
                way.add(channel);
                goOn(next, to, seen | 1 << next, way, open, converts, all);
                way.remove(way.size() - 1);
            }
        }
    }

    private Comparator<List<Integer>> order() {
        return (one, other) -> {
            int[] ones = {length(one), conversions(one), one.size()};
            int[] others = {length(other), conversions(other), other.size()};
            for (int key = 0; key < 3; key++) {
                if (ones[key] != others[key]) {
                    return Integer.compare(ones[key], others[key]);
                }
            }
            for (int place = 0; place < one.size(); place++) {
                int ahead = one.get(place) / 10 - other.get(place) / 10;
                ahead = ahead != 0 ? ahead : one.get(place) % 10 - other.get(place) % 10;
                if (ahead != 0) {
                    return ahead;
                }
            }
            return 0;
        };
    }

    private int length(List<Integer> way) {
        return way.stream().mapToInt(channel -> fibres.get(channel / 10).length).sum();
    }

    private static int conversions(List<Integer> way) {
        int count = 0;
        for (int place = 1; place < way.size(); place++) {
            count += way.get(place) % 10 != way.get(place - 1) % 10 ? 1 : 0;
        }
        return count;
    }

    private static int fibreSet(List<Integer> way) {
        int set = 0;
        for (int channel : way) {
            set |= 1 << channel / 10;
        }
        return set;
    }

    private static boolean joins(Light light, int one, int other) {
        return light.from == one && light.to == other || light.from == other && light.to == one;
    }

    private boolean isNode(int node) {
        return node >= 0 && node < nodes;
    }

    private static void index(boolean isFine) {
        if (!isFine) {
            throw new IndexOutOfBoundsException();
        }
    }

    private static void argument(boolean isFine) {
        if (!isFine) {
            throw new IllegalArgumentException();
        }
    }

    private static void possible(boolean isFine) {
        if (!isFine) {
            throw new IllegalStateException();
        }
    }
}
