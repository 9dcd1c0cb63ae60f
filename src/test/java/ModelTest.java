import java.util.ArrayList;
import java.util.List;

/**
 * Holds the class against a second reading of the document, in which frames,
 * labels and paths are texts: for every label with every number of frames, and
 * over long mixed runs of calls. The runs are the same every time.
 */
public final class ModelTest {
    private static final int RUNS = 60;
    private static final int CALLS = 256;
    private static final Check check = new Check("ModelTest");
    private static final List<List<String>> PATHS = allPaths();
    private static final List<List<String>> READINGS = allReadings();

    private AlignmentDesk desk = new AlignmentDesk();
    private final List<String> frames = new ArrayList<>();
    private String label = "";
    private long seed;

    private ModelTest(long seed) {
        this.seed = seed;
    }

    public static void main(String[] args) {
        everyLabel();
        for (int run = 0; run < RUNS; run++) {
            new ModelTest(run).mixedRun();
        }
        check.end();
    }

    private static List<List<String>> allPaths() {
        List<List<String>> all = new ArrayList<>();
        all.add(List.of(""));
        for (int count = 1; count <= 6; count++) {
            List<String> longer = new ArrayList<>();
            for (String path : all.get(count - 1)) {
                for (char m = '0'; m <= '3'; m++) {
                    longer.add(path + m);
                }
            }
            all.add(longer);
        }
        return all;
    }

    private static List<List<String>> allReadings() {
        List<List<String>> all = new ArrayList<>();
        for (List<String> paths : PATHS) {
            List<String> readings = new ArrayList<>();
            for (String path : paths) {
                readings.add(path.replaceAll("(.)\\1+", "$1").replace("0", ""));
            }
            all.add(readings);
        }
        return all;
    }

    private static void everyLabel() {
        List<String> labels = new ArrayList<>();
        labels.add("");
        for (int at = 0; at < labels.size(); at++) {
            for (char m = '1'; m <= '3' && labels.get(at).length() < 4; m++) {
                labels.add(labels.get(at) + m);
            }
        }
        for (int count = 0; count <= 6; count++) {
            for (int at = 0; at < labels.size(); at++) {
                ModelTest test = new ModelTest(1000L * count + at);
                for (int t = 0; t < count; t++) {
                    test.addFrame();
                }
                for (char m : labels.get(at).toCharArray()) {
                    test.append(m - '0');
                }
                test.askEverything();
            }
        }
    }

    private void mixedRun() {
        for (int call = 0; call < CALLS; call++) {
            switch (below(12)) {
                case 0, 1 -> addFrame();
                case 2 -> dropFrame();
                case 3, 4 -> reweigh();
                case 5, 6 -> append(below(20) == 0 ? below(9) - 3 : 1 + below(3));
                case 7 -> rub();
                default -> askOne(below(10), below(8) - 1, below(6) - 1);
            }
        }
    }

    /** The next number below the bound, of a series that the seed settles. */
    private int below(int bound) {
        seed = seed * 6364136223846793005L + 1442695040888963407L;
        return (int) ((seed >>> 33) % bound);
    }

    private void due(String call, long got, long want) {
        check.due(call + " with frames " + frames + " and label '" + label + "'", got, want);
    }

    private void addFrame() {
        StringBuilder digits = new StringBuilder();
        // Small weights make equal products and zeros likely.
        int bound = below(2) == 0 ? 3 : 9;
        for (int m = 0; m < 4; m++) {
            digits.append(below(bound));
        }
        int weights = Integer.parseInt(digits.reverse().toString());
        digits.reverse();
        due("frame(" + weights + ")", desk.frame(weights), frames.size() == 6 ? -2 : frames.size());
        if (frames.size() < 6) {
            frames.add(digits.toString());
        }
    }

    private void dropFrame() {
        int left = frames.size() - 1;
        due("dropFrame()", desk.dropFrame(), left);
        if (left >= 0) {
            frames.remove(left);
        }
    }

    private void reweigh() {
        int t = below(8) - 1;
        int m = below(6) - 1;
        int w = below(11) - 1;
        boolean right = t >= 0 && t < frames.size() && m >= 0 && m <= 3 && w >= 0 && w <= 8;
        due("weigh(" + t + ", " + m + ", " + w + ")", desk.weigh(t, m, w) ? 1 : 0, right ? 1 : 0);
        if (right) {
            StringBuilder digits = new StringBuilder(frames.get(t));
            digits.setCharAt(m, (char) ('0' + w));
            frames.set(t, digits.toString());
        }
    }

    private void append(int m) {
        boolean right = m >= 1 && m <= 3;
        boolean room = label.length() < 4;
        due("write(" + m + ")", desk.write(m), !right ? -1 : room ? label.length() + 1 : -2);
        if (right && room) {
            label = label + m;
        }
    }

    private void rub() {
        int last = label.length() - 1;
        due("rub()", desk.rub(), last < 0 ? -1 : label.charAt(last) - '0');
        if (last >= 0) {
            label = label.substring(0, last);
        }
    }

    private void askEverything() {
        for (int question = 0; question < 8; question++) {
            askOne(question, 0, 0);
        }
        for (int t = -1; t <= 6; t++) {
            askOne(8, t, 0);
            for (int m = -1; m <= 4; m++) {
                askOne(9, t, m);
            }
        }
    }

    private void askOne(int question, int t, int m) {
        switch (question) {
            case 0 -> due("frames()", desk.frames(), frames.size());
            case 1 -> due("length()", desk.length(), label.length());
            case 2 -> due("total()", desk.total(), total(label));
            case 3 -> due("paths()", desk.paths(), readings().stream().filter(label::equals).count());
            case 4 -> due("best()", desk.best(), best());
            case 5 -> due("prefix()", desk.prefix(), prefix());
            case 6 -> due("everything()", desk.everything(), everything());
            case 7 -> due("bestNext()", desk.bestNext(), bestNext());
            case 8 -> due("bestAt(" + t + ")", desk.bestAt(t), bestAt(t));
            default -> due("through(" + t + ", " + m + ")", desk.through(t, m), through(t, m));
        }
    }

    private List<String> paths() {
        return PATHS.get(frames.size());
    }

    private List<String> readings() {
        return READINGS.get(frames.size());
    }

    private long weight(String path) {
        long product = 1;
        for (int t = 0; t < path.length(); t++) {
            product *= frames.get(t).charAt(path.charAt(t) - '0') - '0';
        }
        return product;
    }

    private long total(String wanted) {
        long sum = 0;
        for (int at = 0; at < paths().size(); at++) {
            sum += readings().get(at).equals(wanted) ? weight(paths().get(at)) : 0;
        }
        return sum;
    }

    private long prefix() {
        long sum = 0;
        for (int at = 0; at < paths().size(); at++) {
            sum += readings().get(at).startsWith(label) ? weight(paths().get(at)) : 0;
        }
        return sum;
    }

    /** The product of the frames' sums, which needs no path. */
    private long everything() {
        long product = 1;
        for (String digits : frames) {
            product *= digits.chars().map(digit -> digit - '0').sum();
        }
        return product;
    }

    private List<String> bestPaths() {
        List<String> found = new ArrayList<>();
        for (int at = 0; at < paths().size(); at++) {
            if (readings().get(at).equals(label)) {
                found.add(paths().get(at));
            }
        }
        long greatest = found.stream().mapToLong(this::weight).max().orElse(0);
        found.removeIf(path -> weight(path) != greatest);
        return found;
    }

    private long best() {
        List<String> found = bestPaths();
        return found.isEmpty() ? 0 : weight(found.get(0));
    }

    private long bestAt(int t) {
        List<String> found = bestPaths();
        if (found.isEmpty() || t < 0 || t >= frames.size()) {
            return -1;
        }
        found.sort(null);
        return found.get(0).charAt(t) - '0';
    }

    private long through(int t, int m) {
        if (t < 0 || t >= frames.size() || m < 0 || m > 3) {
            return -1;
        }
        long sum = 0;
        for (int at = 0; at < paths().size(); at++) {
            String path = paths().get(at);
            sum += path.charAt(t) - '0' == m && readings().get(at).equals(label) ? weight(path) : 0;
        }
        return sum;
    }

    private long bestNext() {
        if (label.length() == 4) {
            return 0;
        }
        long one = total(label + 1);
        long two = total(label + 2);
        long three = total(label + 3);
        long greatest = Math.max(one, Math.max(two, three));
        return greatest == 0 ? 0 : one == greatest ? 1 : two == greatest ? 2 : 3;
    }
}
