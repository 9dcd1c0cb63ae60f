/**
 * Weighs the ways in which a short label can be read off a row of frames.
 *
 * There are never more than 4096 paths, so every question is answered by
 * walking through all of them, as the document words it.
 *
 * A path is held as a number with one base-4 digit for each frame, frame 0
 * having the highest digit: counting upwards then visits the paths in the
 * dictionary order.
 *
 * A label, and what a path reads, is held as a number too, with one base-4
 * digit for each mark, the last mark having the lowest digit. No mark of a
 * label is 0, so different labels are different numbers; 0 is the empty one.
 */
public final class AlignmentDesk {
    public static final int BAD = -1;
    public static final int FULL = -2;

    private static final int MOST_FRAMES = 6;
    private static final int MOST_LABEL_MARKS = 4;
    private static final int MARKS = 4;
    private static final int BLANK = 0;
    private static final int DIGIT_BITS = 2;
    private static final int DIGIT_MASK = 3;
    private static final int GREATEST_WEIGHT = 8;
    private static final int GREATEST_WEIGHTS = 8888;
    private static final int WEIGHT_CELLS = 24;
    private static final int EMPTY_LABEL = 0;
    private static final int NO_PATH = -1;

    private final int[] weightCells = new int[WEIGHT_CELLS];
    private int frameCount;
    private int label;
    private int labelLength;

    public AlignmentDesk() {
        frameCount = 0;
        label = EMPTY_LABEL;
        labelLength = 0;
    }

    public int frame(int weights) {
        if (!areWeights(weights)) {
            return BAD;
        }
        if (frameCount >= MOST_FRAMES) {
            return FULL;
        }
        int rest = weights;
        for (int m = 0; m < MARKS; m++) {
            weightCells[frameCount * MARKS + m] = rest % 10;
            rest = rest / 10;
        }
        frameCount++;
        return frameCount - 1;
    }

    public int dropFrame() {
        if (frameCount == 0) {
            return BAD;
        }
        frameCount--;
        return frameCount;
    }

    public boolean weigh(int t, int m, int w) {
        if (!isFrame(t) || !isMark(m) || w < 0 || w > GREATEST_WEIGHT) {
            return false;
        }
        weightCells[t * MARKS + m] = w;
        return true;
    }

    public int write(int m) {
        if (!isMark(m) || m == BLANK) {
            return BAD;
        }
        if (labelLength >= MOST_LABEL_MARKS) {
            return FULL;
        }
        label = appended(label, m);
        labelLength++;
        return labelLength;
    }

    public int rub() {
        if (labelLength == 0) {
            return BAD;
        }
        int last = label & DIGIT_MASK;
        label = label >> DIGIT_BITS;
        labelLength--;
        return last;
    }

    public int frames() {
        return frameCount;
    }

    public int length() {
        return labelLength;
    }

    public int total() {
        return totalOf(label);
    }

    public int paths() {
        int count = 0;
        int end = pathCount();
        for (int path = 0; path < end; path++) {
            if (readingOf(path) == label) {
                count++;
            }
        }
        return count;
    }

    public int best() {
        int path = bestPath();
        if (path == NO_PATH) {
            return 0;
        }
        return weightOf(path);
    }

    public int through(int t, int m) {
        if (!isFrame(t) || !isMark(m)) {
            return BAD;
        }
        int sum = 0;
        int end = pathCount();
        for (int path = 0; path < end; path++) {
            if (markOf(path, t) == m && readingOf(path) == label) {
                sum += weightOf(path);
            }
        }
        return sum;
    }

    public int prefix() {
        int sum = 0;
        int end = pathCount();
        for (int path = 0; path < end; path++) {
            int reading = readingOf(path);
            if (beginsWithLabel(reading)) {
                sum += weightOf(path);
            }
        }
        return sum;
    }

    public int everything() {
        int sum = 0;
        int end = pathCount();
        for (int path = 0; path < end; path++) {
            sum += weightOf(path);
        }
        return sum;
    }

    public int bestNext() {
        // Six frames can read more than four marks, but no label has them.
        if (labelLength >= MOST_LABEL_MARKS) {
            return 0;
        }
        int next = 0;
        int greatest = 0;
        for (int m = 1; m < MARKS; m++) {
            int longer = appended(label, m);
            int sum = totalOf(longer);
            if (sum > greatest) {
                greatest = sum;
                next = m;
            }
        }
        return next;
    }

    public int bestAt(int t) {
        if (!isFrame(t)) {
            return BAD;
        }
        int path = bestPath();
        if (path == NO_PATH) {
            return BAD;
        }
        return markOf(path, t);
    }

    private boolean isFrame(int t) {
        return t >= 0 && t < frameCount;
    }

    private boolean isMark(int m) {
        return m >= 0 && m < MARKS;
    }

    private boolean areWeights(int weights) {
        if (weights < 0 || weights > GREATEST_WEIGHTS) {
            return false;
        }
        int rest = weights;
        for (int m = 0; m < MARKS; m++) {
            if (rest % 10 > GREATEST_WEIGHT) {
                return false;
            }
            rest = rest / 10;
        }
        return true;
    }

    private int appended(int marks, int m) {
        return (marks << DIGIT_BITS) | m;
    }

    private int pathCount() {
        return 1 << (DIGIT_BITS * frameCount);
    }

    private int markOf(int path, int t) {
        return (path >> (DIGIT_BITS * (frameCount - 1 - t))) & DIGIT_MASK;
    }

    private int weightOf(int path) {
        int product = 1;
        for (int t = 0; t < frameCount; t++) {
            int m = markOf(path, t);
            product *= weightCells[t * MARKS + m];
        }
        return product;
    }

    private int readingOf(int path) {
        int reading = EMPTY_LABEL;
        // As if a blank stood before the first frame: it changes no reading.
        int before = BLANK;
        for (int t = 0; t < frameCount; t++) {
            int m = markOf(path, t);
            if (m != before && m != BLANK) {
                reading = appended(reading, m);
            }
            before = m;
        }
        return reading;
    }

    private boolean beginsWithLabel(int reading) {
        int rest = reading;
        for (int cut = 0; cut <= MOST_FRAMES; cut++) {
            if (rest == label) {
                return true;
            }
            rest = rest >> DIGIT_BITS;
        }
        return false;
    }

    private int totalOf(int marks) {
        int sum = 0;
        int end = pathCount();
        for (int path = 0; path < end; path++) {
            if (readingOf(path) == marks) {
                sum += weightOf(path);
            }
        }
        return sum;
    }

    private int bestPath() {
        int found = NO_PATH;
        // Below 0, so that a path of weight 0 is found where no other reads.
        int greatest = -1;
        int end = pathCount();
        for (int path = 0; path < end; path++) {
            if (readingOf(path) == label) {
                int weight = weightOf(path);
                // Of equal weights the first stays: it is the least.
                if (weight > greatest) {
                    greatest = weight;
                    found = path;
                }
            }
        }
        return found;
    }
}
