import java.util.Arrays;
import java.util.function.IntSupplier;

/**
 * One test for each sentence of the document that names a boundary case, named
 * after its promise and sentence. Answers are worked out by hand.
 */
public final class BoundaryTest {
    private static final int BAD = AlignmentDesk.BAD;
    private static final int FULL = AlignmentDesk.FULL;
    private static final int LEAST = Integer.MIN_VALUE;
    private static final int MOST = Integer.MAX_VALUE;
    // The far ones become small again when multiplied by four or cut to fewer bits.
    private static final int[] NOT_A_MARK = {-1, 4, 5, -4, 256, 65537, (1 << 30) + 1, LEAST, LEAST + 1, MOST};
    private static final int[] NOT_A_WEIGHT = {-1, 9, 10, -8, 256, 65537, LEAST, LEAST + 1, MOST};
    private static final int[] NOT_OF_TWO_FRAMES = {-1, 2, 3, 5, 6, -2, 256, 1 << 30, (1 << 30) + 1, LEAST, MOST};
    private static final Check check = new Check("BoundaryTest");
    private static String sentence = "";
    private static int asked = 0;

    public static void main(String[] args) {
        object();
        terms();
        changingTheFrames();
        changingTheLabel();
        counting();
        weighing();
        choosing();
        check.end();
    }

    private static void object() {
        test("An object is used for at most 512 calls", BoundaryTest::allOf512Calls);
        test("1: No frames", BoundaryTest::newHasNoFrames);
        test("1: the empty label", BoundaryTest::newHasTheEmptyLabel);
    }

    private static void terms() {
        test("Terms: at most six FRAMES 0, 1, ..", BoundaryTest::sixFrames);
        test("Terms: a weight (0 .. 8) to each of the marks 0 .. 3", BoundaryTest::leastAndGreatestWeight);
        test("Terms: Mark 0 is the BLANK", BoundaryTest::markZeroIsTheBlank);
        test("Terms: a list of at most four marks other than 0", BoundaryTest::fourMarks);
        test("Terms: one mark for every frame; the product of the weights", BoundaryTest::productOfTheWeights);
        test("Terms: replacing every run of equal marks by one of them", BoundaryTest::runsAreOneMark);
        test("Terms: and then leaving the blanks out", BoundaryTest::blanksAreLeftOutAfterwards);
        test("Terms: With no frames there is one path", BoundaryTest::noFramesOnePath);
    }

    private static void changingTheFrames() {
        test("2: frame answers its number", BoundaryTest::frameAnswersItsNumber);
        test("2: w0 + 10 * w1 + 100 * w2 + 1000 * w3", BoundaryTest::digitsAreTheWeights);
        test("2: BAD when weights is not 0 .. 8888", BoundaryTest::weightsOutOfRange);
        test("2: BAD when weights has the digit 9", BoundaryTest::digitNine);
        test("2: FULL when there are six", BoundaryTest::seventhFrame);
        test("2: tested in this order", BoundaryTest::frameBadBeforeFull);
        test("3: dropFrame answers how many are left", BoundaryTest::dropFrameDownToNone);
        test("3: takes the last frame away", BoundaryTest::dropFrameTakesTheLast);
        test("3: BAD when there is none", BoundaryTest::dropFrameOfNone);
        test("4: weigh gives another weight and answers true", BoundaryTest::weighAtTheEdges);
        test("4: false, changing nothing, when there is no frame t", BoundaryTest::weighNoFrame);
        test("4: false, changing nothing, when m is not 0 .. 3", BoundaryTest::weighNoMark);
        test("4: false, changing nothing, when w is not 0 .. 8", BoundaryTest::weighNoWeight);
    }

    private static void changingTheLabel() {
        test("5: write appends a mark and answers its length", BoundaryTest::writeUpToFour);
        test("5: BAD when m is not 1 .. 3", BoundaryTest::writeNoMark);
        test("5: FULL when it has four", BoundaryTest::writeAFifth);
        test("6: rub takes the last mark away and answers it", BoundaryTest::rubDownToNone);
        test("6: BAD when it is empty", BoundaryTest::rubOfNone);
        test("17: write: BAD is tested before FULL", BoundaryTest::writeBadBeforeFull);
    }

    private static void counting() {
        test("7: The number of frames", BoundaryTest::framesFromNoneToSix);
        test("8: The number of marks of the label", BoundaryTest::lengthFromNoneToFour);
        test("10: The number of paths that read the label", BoundaryTest::pathsFromNoneToMost);
        test("10: whatever their weights", BoundaryTest::pathsOfWeightZero);
    }

    private static void weighing() {
        test("9: total() of no path and of the greatest weights", BoundaryTest::totalFromNoneToMost);
        test("11: The greatest weight of a path", BoundaryTest::bestIsTheGreatest);
        test("11: 0 when there is none", BoundaryTest::bestOfNone);
        test("12: through() has mark m at frame t", BoundaryTest::throughAtTheEdges);
        test("12: BAD when there is no frame t", BoundaryTest::throughNoFrame);
        test("12: BAD when m is not 0 .. 3", BoundaryTest::throughNoMark);
        test("13: a label that begins with the label", BoundaryTest::prefixIsTheBeginning);
        test("13: itself too", BoundaryTest::prefixItselfToo);
        test("13: prefix() of labels of none and of four", BoundaryTest::prefixOfNoneAndOfFour);
        test("14: The sum of the weights of all paths", BoundaryTest::everythingFromNoneToMost);
    }

    private static void choosing() {
        test("15: the greatest total() then", BoundaryTest::bestNextByTotal);
        test("15: the least of several", BoundaryTest::bestNextOfEqualTotals);
        test("15: 0 when all three would give 0", BoundaryTest::bestNextOfNone);
        test("15: or the label has four", BoundaryTest::bestNextOfFour);
        test("16: of those that have the greatest weight", BoundaryTest::bestAtOfTheGreatest);
        test("16: least in the dictionary order", BoundaryTest::bestAtOfEqualWeights);
        test("16: BAD when no path reads the label", BoundaryTest::bestAtOfNoPath);
        test("16: BAD when there is no frame t", BoundaryTest::bestAtNoFrame);
        test("7 to 16: a question changes nothing", BoundaryTest::questionsChangeNothing);
    }

    /** A call that throws is wrong too, and must not hide the tests after it. */
    private static void test(String words, Runnable body) {
        sentence = words;
        asked = 0;
        try {
            body.run();
        } catch (RuntimeException e) {
            due("a call that threw " + e, 1, 0);
        }
        due("a call of the test", asked > 0, true);
    }

    private static void due(String call, int got, int want) {
        asked++;
        check.due("[" + sentence + "] " + call, got, want);
    }

    private static void due(String call, boolean got, boolean want) {
        asked++;
        check.due("[" + sentence + "] " + call, got, want);
    }

    /** The call is refused with this answer, and the questions are answered as before. */
    private static void refused(AlignmentDesk desk, String call, IntSupplier asking, int want) {
        String before = answers(desk);
        due(call, asking.getAsInt(), want);
        check.due("[" + sentence + "] what holds after " + call, answers(desk), before);
    }

    private static void refusedWeigh(AlignmentDesk desk, int t, int m, int w) {
        String call = "weigh(" + t + ", " + m + ", " + w + ")";
        refused(desk, call, () -> desk.weigh(t, m, w) ? 1 : 0, 0);
    }

    /** Few questions, so that no object is asked more often than it is made for. */
    private static String answers(AlignmentDesk desk) {
        int[] all = {
            desk.frames(), desk.length(), desk.total(), desk.paths(), desk.best(), desk.prefix(),
            desk.everything(), desk.bestNext()};
        return Arrays.toString(all);
    }

    /** A desk with these frames, in their order. */
    private static AlignmentDesk desk(int... frames) {
        AlignmentDesk desk = new AlignmentDesk();
        for (int weights : frames) {
            desk.frame(weights);
        }
        return desk;
    }

    private static AlignmentDesk sixFramesOf(int weights) {
        return desk(weights, weights, weights, weights, weights, weights);
    }

    /** A desk on which this path weighs 1 and every other one weighs 0. */
    private static AlignmentDesk onlyPath(int... path) {
        int[] weightsOfMark = {1, 10, 100, 1000};
        AlignmentDesk desk = new AlignmentDesk();
        for (int m : path) {
            desk.frame(weightsOfMark[m]);
        }
        return desk;
    }

    private static AlignmentDesk labelled(AlignmentDesk desk, int... marks) {
        for (int left = desk.length(); left > 0; left--) {
            desk.rub();
        }
        for (int m : marks) {
            desk.write(m);
        }
        return desk;
    }

    /** Two frames whose weights all differ, and a label, so that any change is seen. */
    private static AlignmentDesk twoFrames() {
        return labelled(desk(4321, 8765), 1, 2);
    }

    private static void dueBestPath(AlignmentDesk desk, int... path) {
        for (int t = 0; t < path.length; t++) {
            due("bestAt(" + t + ")", desk.bestAt(t), path[t]);
        }
    }

    private static void allOf512Calls() {
        AlignmentDesk desk = new AlignmentDesk();
        for (int round = 0; round < 84; round++) {
            due("frame(2)", desk.frame(2), 0);
            due("write(3)", desk.write(3), 1);
            due("total() of 3", desk.total(), 0);
            due("rub()", desk.rub(), 3);
            due("total() of the empty label", desk.total(), 2);
            due("dropFrame()", desk.dropFrame(), 0);
        }
        for (int t = 0; t < 6; t++) {
            due("frame(8888)", desk.frame(8888), t);
        }
        due("the 511th call, frame(8888)", desk.frame(8888), FULL);
        due("the 512th call, everything()", desk.everything(), 1 << 30);

        AlignmentDesk refusing = new AlignmentDesk();
        for (int call = 1; call <= 511; call++) {
            due("dropFrame()", refusing.dropFrame(), BAD);
        }
        due("the 512th call, frame(1)", refusing.frame(1), 0);
    }

    private static void newHasNoFrames() {
        due("frames()", new AlignmentDesk().frames(), 0);
        due("dropFrame()", new AlignmentDesk().dropFrame(), BAD);
        due("weigh(0, 0, 1)", new AlignmentDesk().weigh(0, 0, 1), false);
        due("frame(1)", new AlignmentDesk().frame(1), 0);

        sixFramesOf(8888);
        due("frames() after another object was filled", new AlignmentDesk().frames(), 0);
        due("frame(1) after another object was filled", new AlignmentDesk().frame(1), 0);
    }

    private static void newHasTheEmptyLabel() {
        due("length()", new AlignmentDesk().length(), 0);
        due("rub()", new AlignmentDesk().rub(), BAD);
        due("write(1)", new AlignmentDesk().write(1), 1);
        due("total()", new AlignmentDesk().total(), 1);

        labelled(desk(), 1, 2, 3, 1);
        due("length() after another object was filled", new AlignmentDesk().length(), 0);
        due("write(1) after another object was filled", new AlignmentDesk().write(1), 1);
    }

    private static void sixFrames() {
        AlignmentDesk desk = sixFramesOf(11);
        due("frames()", desk.frames(), 6);
        labelled(desk, 1);
        for (int t = 0; t < 6; t++) {
            due("through(" + t + ", 1) is answered", desk.through(t, 1) > 0, true);
            due("bestAt(" + t + ")", desk.bestAt(t), t < 5 ? 0 : 1);
            due("weigh(" + t + ", 1, 1)", desk.weigh(t, 1, 1), true);
        }
        refused(desk, "frame(11)", () -> desk.frame(11), FULL);
        due("through(6, 1)", desk.through(6, 1), BAD);
        due("bestAt(6)", desk.bestAt(6), BAD);
        due("weigh(6, 1, 1)", desk.weigh(6, 1, 1), false);
    }

    private static void leastAndGreatestWeight() {
        int[] eight = {8, 80, 800, 8000};
        int[] onlyThisZero = {8880, 8808, 8088, 888};
        for (int m = 0; m <= 3; m++) {
            AlignmentDesk most = desk(eight[m]);
            AlignmentDesk least = desk(onlyThisZero[m]);
            due("everything() with 8 for mark " + m, most.everything(), 8);
            due("everything() with 0 for mark " + m, least.everything(), 24);
            if (m > 0) {
                most.write(m);
                least.write(m);
            }
            due("total() of mark " + m + " with 8", most.total(), 8);
            due("total() of mark " + m + " with 0", least.total(), 0);
        }
    }

    private static void markZeroIsTheBlank() {
        due("total() of the empty label, blank 8", desk(8).total(), 8);
        due("total() of the empty label, blank 0", desk(8880).total(), 0);
        for (int m = 1; m <= 3; m++) {
            due("total() of label " + m + ", blank 8", labelled(desk(8), m).total(), 0);
        }
        due("total() of the empty label, six blanks", sixFramesOf(8882).total(), 64);
        due("total() of 2 for 2 0", labelled(onlyPath(2, 0), 2).total(), 1);
        due("total() of 2 for 0 2", labelled(onlyPath(0, 2), 2).total(), 1);
        due("write(0)", desk(8).write(0), BAD);
    }

    private static void fourMarks() {
        AlignmentDesk desk = new AlignmentDesk();
        for (int length = 1; length <= 4; length++) {
            due("write(3)", desk.write(3), length);
        }
        refused(desk, "write(3) to four", () -> desk.write(3), FULL);
        AlignmentDesk empty = new AlignmentDesk();
        refused(empty, "write(0)", () -> empty.write(0), BAD);

        AlignmentDesk six = labelled(sixFramesOf(1111), 1, 2, 3, 1);
        due("paths() of four marks", six.paths(), 45);
        for (int m : new int[] {1, 3, 2, 1}) {
            due("rub()", six.rub(), m);
        }
    }

    private static void productOfTheWeights() {
        due("total() of one blank", desk(7).total(), 7);
        due("total() of six blanks", desk(2, 3, 4, 5, 6, 7).total(), 5040);
        due("total() of six blanks of 8", sixFramesOf(8).total(), 262144);
        due("total() of six blanks, the first 0", desk(0, 8, 8, 8, 8, 8).total(), 0);
        due("total() of six blanks, the last 0", desk(8, 8, 8, 8, 8, 0).total(), 0);
        AlignmentDesk desk = labelled(desk(20, 3, 400, 5000), 1, 2, 3);
        due("total() of 1 0 2 3", desk.total(), 120);
        due("paths() of a mark too many", labelled(desk(1111), 1, 2).paths(), 0);
    }

    private static void runsAreOneMark() {
        AlignmentDesk six = labelled(onlyPath(3, 3, 3, 3, 3, 3), 3);
        due("total() of 3 for 3 3 3 3 3 3", six.total(), 1);
        labelled(six, 3, 3);
        due("total() of 3, 3 for 3 3 3 3 3 3", six.total(), 0);
        AlignmentDesk pairs = labelled(onlyPath(1, 1, 2, 2, 1, 1), 1, 2, 1);
        due("total() of 1, 2, 1 for 1 1 2 2 1 1", pairs.total(), 1);
        AlignmentDesk blanks = labelled(onlyPath(0, 0, 2, 2, 0, 0), 2);
        due("total() of 2 for 0 0 2 2 0 0", blanks.total(), 1);
        AlignmentDesk single = labelled(onlyPath(1, 2, 3, 1), 1, 2, 3, 1);
        due("total() of 1, 2, 3, 1 for 1 2 3 1", single.total(), 1);
    }

    private static void blanksAreLeftOutAfterwards() {
        AlignmentDesk apart = labelled(onlyPath(1, 0, 1), 1, 1);
        due("total() of 1, 1 for 1 0 1", apart.total(), 1);
        labelled(apart, 1);
        due("total() of 1 for 1 0 1", apart.total(), 0);
        AlignmentDesk wide = labelled(onlyPath(2, 0, 0, 0, 0, 2), 2, 2);
        due("total() of 2, 2 for 2 0 0 0 0 2", wide.total(), 1);
        AlignmentDesk mixed = labelled(onlyPath(0, 1, 1, 0, 1, 2), 1, 1, 2);
        due("total() of 1, 1, 2 for 0 1 1 0 1 2", mixed.total(), 1);
        AlignmentDesk edges = labelled(onlyPath(0, 3, 0), 3);
        due("total() of 3 for 0 3 0", edges.total(), 1);
        due("total() of the empty label for six blanks", onlyPath(0, 0, 0, 0, 0, 0).total(), 1);
    }

    private static void noFramesOnePath() {
        AlignmentDesk dropped = sixFramesOf(8888);
        for (int left = 6; left > 0; left--) {
            dropped.dropFrame();
        }
        for (AlignmentDesk desk : new AlignmentDesk[] {new AlignmentDesk(), dropped}) {
            due("total()", desk.total(), 1);
            due("paths()", desk.paths(), 1);
            due("best()", desk.best(), 1);
            due("prefix()", desk.prefix(), 1);
            due("everything()", desk.everything(), 1);
            for (int length = 1; length <= 4; length++) {
                desk.write(1);
                due("total() of " + length, desk.total(), 0);
                due("paths() of " + length, desk.paths(), 0);
                due("best() of " + length, desk.best(), 0);
                due("prefix() of " + length, desk.prefix(), 0);
                due("everything() beside " + length, desk.everything(), 1);
            }
        }
    }

    private static void frameAnswersItsNumber() {
        AlignmentDesk desk = new AlignmentDesk();
        for (int t = 0; t < 6; t++) {
            due("frame(1)", desk.frame(1), t);
        }
        desk.dropFrame();
        due("frame(1) in the place of the last", desk.frame(1), 5);
        for (int left = 6; left > 0; left--) {
            desk.dropFrame();
        }
        due("frame(1) after all were dropped", desk.frame(1), 0);
    }

    private static void digitsAreTheWeights() {
        int[] numbers = {0, 1, 8, 10, 80, 100, 800, 1000, 8000, 888, 8088, 8808, 8880, 8888, 4321};
        for (int weights : numbers) {
            String digits = String.format("%04d", weights);
            AlignmentDesk desk = desk(weights);
            due("total() of the blank of " + weights, desk.total(), digits.charAt(3) - '0');
            for (int m = 1; m <= 3; m++) {
                labelled(desk, m);
                due("total() of mark " + m + " of " + weights, desk.total(), digits.charAt(3 - m) - '0');
            }
        }
        AlignmentDesk again = desk(8888);
        again.dropFrame();
        again.frame(1);
        due("everything() of frame(1) where frame(8888) was", again.everything(), 1);
    }

    private static void weightsOutOfRange() {
        due("frame(0)", desk().frame(0), 0);
        due("frame(8888)", desk().frame(8888), 0);
        // None has the digit 9: the range alone refuses them.
        int[] wrong = {-1, -8, -1111, -8888, 10000, 10001, 11111, 18888, 65536, 66647, 88888, LEAST, MOST - 7};
        for (int weights : wrong) {
            AlignmentDesk desk = twoFrames();
            refused(desk, "frame(" + weights + ")", () -> desk.frame(weights), BAD);
            due("frame(1) after it", desk.frame(1), 2);
        }
        due("frame(8889)", desk().frame(8889), BAD);
        due("frame(" + MOST + ")", desk().frame(MOST), BAD);
    }

    private static void digitNine() {
        int[] nine = {
            9, 19, 89, 90, 98, 99, 190, 898, 900, 988, 989, 999, 1009, 1090, 1900, 7999,
            8789, 8798, 8879, 8889, 8890, 8898, 8900, 8988, 9000, 9888, 9999};
        for (int weights : nine) {
            AlignmentDesk desk = twoFrames();
            refused(desk, "frame(" + weights + ")", () -> desk.frame(weights), BAD);
            due("frame(1) after it", desk.frame(1), 2);
        }
        int[] right = {8, 88, 888, 8888, 10, 100, 1000, 8000, 8880};
        for (int weights : right) {
            due("frame(" + weights + ")", twoFrames().frame(weights), 2);
        }
    }

    private static void seventhFrame() {
        AlignmentDesk desk = desk(4321, 5432, 6543, 7654, 8765);
        due("frame(1234) to five", desk.frame(1234), 5);
        for (int weights : new int[] {0, 1, 1234, 8888}) {
            refused(desk, "frame(" + weights + ") to six", () -> desk.frame(weights), FULL);
        }
        due("dropFrame()", desk.dropFrame(), 5);
        due("frame(8888) after dropFrame()", desk.frame(8888), 5);
        refused(desk, "frame(0) to six again", () -> desk.frame(0), FULL);
    }

    private static void frameBadBeforeFull() {
        AlignmentDesk six = sixFramesOf(4321);
        for (int weights : new int[] {-1, 8889, 10000, LEAST, MOST, 9, 90, 900, 9000, 1911}) {
            refused(six, "frame(" + weights + ") to six", () -> six.frame(weights), BAD);
        }
        refused(six, "frame(0) to six", () -> six.frame(0), FULL);
        refused(six, "frame(8888) to six", () -> six.frame(8888), FULL);
    }

    private static void dropFrameDownToNone() {
        AlignmentDesk desk = sixFramesOf(2);
        desk.write(1);
        for (int left = 5; left >= 0; left--) {
            due("dropFrame()", desk.dropFrame(), left);
            due("frames()", desk.frames(), left);
            due("everything()", desk.everything(), 1 << left);
            due("length()", desk.length(), 1);
        }
    }

    private static void dropFrameTakesTheLast() {
        AlignmentDesk desk = desk(2, 3, 4, 5, 6, 7);
        for (int product : new int[] {720, 120, 24, 6, 2, 1}) {
            desk.dropFrame();
            due("everything()", desk.everything(), product);
        }
    }

    private static void dropFrameOfNone() {
        AlignmentDesk empty = labelled(desk(), 1);
        refused(empty, "dropFrame() of a new object", empty::dropFrame, BAD);
        refused(empty, "dropFrame() once more", empty::dropFrame, BAD);
        due("frame(1) after them", empty.frame(1), 0);
        due("dropFrame() of one", empty.dropFrame(), 0);
        refused(empty, "dropFrame() after the last was dropped", empty::dropFrame, BAD);
        due("frame(5) after it", empty.frame(5), 0);
        due("everything()", empty.everything(), 5);
    }

    private static void weighAtTheEdges() {
        for (int t : new int[] {0, 5}) {
            for (int m : new int[] {0, 3}) {
                AlignmentDesk desk = sixFramesOf(1111);
                due("weigh(" + t + ", " + m + ", 8)", desk.weigh(t, m, 8), true);
                due("everything() with one 8", desk.everything(), 11 * 1024);
                due("weigh(" + t + ", " + m + ", 8) again", desk.weigh(t, m, 8), true);
                due("everything() still", desk.everything(), 11 * 1024);
                due("weigh(" + t + ", " + m + ", 0)", desk.weigh(t, m, 0), true);
                due("everything() with one 0", desk.everything(), 3 * 1024);
                due("frames()", desk.frames(), 6);
            }
        }
        AlignmentDesk one = labelled(desk(0), 3);
        due("weigh(0, 3, 8) of one frame", one.weigh(0, 3, 8), true);
        due("total() of 3", one.total(), 8);
        due("everything()", one.everything(), 8);
    }

    private static void weighNoFrame() {
        for (int t : NOT_OF_TWO_FRAMES) {
            for (int m = 0; m <= 3; m++) {
                refusedWeigh(twoFrames(), t, m, 0);
            }
        }
        refusedWeigh(new AlignmentDesk(), 0, 0, 1);
        refusedWeigh(sixFramesOf(4321), 6, 0, 0);
        refusedWeigh(sixFramesOf(4321), -1, 0, 0);
        AlignmentDesk dropped = desk(4321, 8765, 1111);
        dropped.dropFrame();
        refusedWeigh(dropped, 2, 0, 8);
    }

    private static void weighNoMark() {
        for (int m : NOT_A_MARK) {
            refusedWeigh(twoFrames(), 0, m, 0);
            refusedWeigh(twoFrames(), 1, m, 0);
            // The wrong mark makes up for the wrong frame if they are only added.
            refusedWeigh(twoFrames(), -1, m, 0);
            refusedWeigh(twoFrames(), 2, m, 0);
        }
        refusedWeigh(sixFramesOf(4321), 5, 4, 0);
    }

    private static void weighNoWeight() {
        for (int w : NOT_A_WEIGHT) {
            for (int m = 0; m <= 3; m++) {
                refusedWeigh(twoFrames(), 0, m, w);
                refusedWeigh(twoFrames(), 1, m, w);
            }
            refusedWeigh(twoFrames(), 2, 4, w);
        }
    }

    private static void writeUpToFour() {
        for (int m = 1; m <= 3; m++) {
            AlignmentDesk desk = new AlignmentDesk();
            for (int length = 1; length <= 4; length++) {
                due("write(" + m + ")", desk.write(m), length);
            }
        }
        AlignmentDesk path = onlyPath(3, 1, 2, 3);
        path.write(3);
        path.write(1);
        path.write(2);
        path.write(3);
        due("total() of 3, 1, 2, 3 for 3 1 2 3", path.total(), 1);
    }

    private static void writeNoMark() {
        for (int length = 0; length <= 3; length++) {
            AlignmentDesk desk = sixFramesOf(4321);
            for (int written = 0; written < length; written++) {
                desk.write(1 + written % 2);
            }
            refused(desk, "write(0) to " + length, () -> desk.write(0), BAD);
            for (int m : NOT_A_MARK) {
                refused(desk, "write(" + m + ") to " + length, () -> desk.write(m), BAD);
            }
            due("write(1) after them", desk.write(1), length + 1);
        }
    }

    private static void writeAFifth() {
        AlignmentDesk desk = labelled(sixFramesOf(4321), 1, 2, 3);
        due("write(2) to three", desk.write(2), 4);
        for (int m = 1; m <= 3; m++) {
            int mark = m;
            refused(desk, "write(" + m + ") to four", () -> desk.write(mark), FULL);
        }
        due("rub() after them", desk.rub(), 2);
        due("write(1) after rub()", desk.write(1), 4);
        refused(desk, "write(1) to four again", () -> desk.write(1), FULL);
    }

    private static void rubDownToNone() {
        AlignmentDesk desk = labelled(desk(4321), 3, 1, 2, 3);
        int[] marks = {3, 2, 1, 3};
        for (int rubbed = 0; rubbed < 4; rubbed++) {
            due("rub()", desk.rub(), marks[rubbed]);
            due("length()", desk.length(), 3 - rubbed);
            due("frames()", desk.frames(), 1);
        }
        due("total() of the empty label", desk.total(), 1);
        AlignmentDesk equal = labelled(desk(4321), 2, 2);
        due("rub() of 2, 2", equal.rub(), 2);
        due("total() of the 2 that is left", equal.total(), 3);
    }

    private static void rubOfNone() {
        AlignmentDesk empty = desk(4321);
        refused(empty, "rub() of a new object", empty::rub, BAD);
        refused(empty, "rub() once more", empty::rub, BAD);
        due("write(3) after them", empty.write(3), 1);
        due("total() of 3", empty.total(), 4);
        due("rub() of one", empty.rub(), 3);
        refused(empty, "rub() after the last was rubbed", empty::rub, BAD);
    }

    private static void writeBadBeforeFull() {
        AlignmentDesk four = labelled(sixFramesOf(4321), 1, 2, 3, 1);
        refused(four, "write(0) to four", () -> four.write(0), BAD);
        for (int m : NOT_A_MARK) {
            refused(four, "write(" + m + ") to four", () -> four.write(m), BAD);
        }
        refused(four, "write(3) to four", () -> four.write(3), FULL);
    }

    private static void framesFromNoneToSix() {
        AlignmentDesk desk = new AlignmentDesk();
        due("frames() of none", desk.frames(), 0);
        desk.dropFrame();
        due("frames() after a refused dropFrame()", desk.frames(), 0);
        for (int count = 1; count <= 6; count++) {
            desk.frame(0);
            due("frames()", desk.frames(), count);
            desk.frame(9);
            due("frames() after frame(9)", desk.frames(), count);
        }
        desk.frame(0);
        due("frames() after a seventh was refused", desk.frames(), 6);
        desk.write(1);
        desk.rub();
        due("frames() after write(1) and rub()", desk.frames(), 6);
        desk.dropFrame();
        due("frames() after dropFrame()", desk.frames(), 5);
    }

    private static void lengthFromNoneToFour() {
        AlignmentDesk desk = new AlignmentDesk();
        due("length() of none", desk.length(), 0);
        desk.rub();
        due("length() after a refused rub()", desk.length(), 0);
        for (int count = 1; count <= 4; count++) {
            desk.write(3);
            due("length()", desk.length(), count);
            desk.write(0);
            due("length() after write(0)", desk.length(), count);
        }
        desk.write(3);
        due("length() after a fifth was refused", desk.length(), 4);
        desk.frame(1);
        desk.dropFrame();
        due("length() after frame(1) and dropFrame()", desk.length(), 4);
        desk.rub();
        due("length() after rub()", desk.length(), 3);
    }

    private static void pathsFromNoneToMost() {
        // For 0 .. 6 frames: a mark after an equal one wants a blank between.
        duePathsByFrames(new int[] {}, 1, 1, 1, 1, 1, 1, 1);
        duePathsByFrames(new int[] {3}, 0, 1, 3, 6, 10, 15, 21);
        duePathsByFrames(new int[] {1, 2}, 0, 0, 1, 5, 15, 35, 70);
        duePathsByFrames(new int[] {2, 2}, 0, 0, 0, 1, 5, 15, 35);
        duePathsByFrames(new int[] {1, 2, 1}, 0, 0, 0, 1, 7, 28, 84);
        duePathsByFrames(new int[] {3, 3, 3}, 0, 0, 0, 0, 0, 1, 7);
        duePathsByFrames(new int[] {1, 2, 3, 1}, 0, 0, 0, 0, 1, 9, 45);
        duePathsByFrames(new int[] {1, 1, 2, 3}, 0, 0, 0, 0, 0, 1, 9);
        duePathsByFrames(new int[] {1, 1, 2, 2}, 0, 0, 0, 0, 0, 0, 1);
        duePathsByFrames(new int[] {1, 1, 1, 1}, 0, 0, 0, 0, 0, 0, 0);
    }

    private static void duePathsByFrames(int[] label, int... counts) {
        AlignmentDesk desk = labelled(desk(), label);
        for (int count : counts) {
            String call = "paths() of " + label.length + " marks in " + desk.frames() + " frames";
            due(call, desk.paths(), count);
            desk.frame(1111);
        }
    }

    private static void pathsOfWeightZero() {
        for (int weights : new int[] {0, 1, 8, 8880, 8888}) {
            AlignmentDesk six = sixFramesOf(weights);
            due("paths() of the empty label with " + weights, six.paths(), 1);
            labelled(six, 2);
            due("paths() of 2 with " + weights, six.paths(), 21);
            labelled(six, 1, 2, 3, 1);
            due("paths() of four with " + weights, six.paths(), 45);
        }
    }

    private static void totalFromNoneToMost() {
        AlignmentDesk six = sixFramesOf(8888);
        due("total() of the empty label", six.total(), 262144);
        labelled(six, 1);
        due("total() of 1", six.total(), 21 * 262144);
        labelled(six, 3);
        due("total() of 3", six.total(), 21 * 262144);
        labelled(six, 1, 2, 1);
        due("total() of 1, 2, 1", six.total(), 84 * 262144);
        labelled(six, 1, 2, 3, 1);
        due("total() of 1, 2, 3, 1", six.total(), 45 * 262144);
        labelled(six, 1, 1, 1, 1);
        due("total() of 1, 1, 1, 1, which no path reads", six.total(), 0);
        due("total() of weights 0", labelled(sixFramesOf(0), 1).total(), 0);
        due("total() of a label longer than the frames", labelled(desk(8888), 1, 2).total(), 0);
        AlignmentDesk longer = labelled(onlyPath(1, 2, 3, 1, 2, 3), 1, 2, 3, 1);
        due("total() of 1, 2, 3, 1 for 1 2 3 1 2 3", longer.total(), 0);
    }

    private static void bestIsTheGreatest() {
        // 0 1 weighs 12, 1 0 weighs 10, 1 1 weighs 15.
        AlignmentDesk desk = labelled(desk(54, 32), 1);
        due("best() of the last path", desk.best(), 15);
        desk.weigh(1, 0, 8);
        due("best() of the middle path", desk.best(), 40);
        desk.weigh(0, 0, 8);
        desk.weigh(1, 0, 0);
        due("best() of the first path", desk.best(), 24);
        due("best() of six 8", labelled(sixFramesOf(8888), 1, 1, 2, 2).best(), 262144);
        due("best() of one frame", desk(7).best(), 7);
    }

    private static void bestOfNone() {
        due("best() of 1 without frames", labelled(desk(), 1).best(), 0);
        due("best() of 1, 2 in one frame", labelled(desk(8888), 1, 2).best(), 0);
        due("best() of 1, 1 in two frames", labelled(desk(8888, 8888), 1, 1).best(), 0);
        due("best() of 1, 1, 1, 1 in six frames", labelled(sixFramesOf(8888), 1, 1, 1, 1).best(), 0);
        due("best() of paths of weight 0", labelled(desk(8808, 8808), 1).best(), 0);
        due("best() of the empty label with blanks of weight 0", desk(8880).best(), 0);
    }

    private static void throughAtTheEdges() {
        // 0 3 weighs 10, 3 0 weighs 12, 3 3 weighs 15.
        AlignmentDesk two = labelled(desk(3002, 5004), 3);
        due("through(0, 0)", two.through(0, 0), 10);
        due("through(0, 3)", two.through(0, 3), 27);
        due("through(1, 0)", two.through(1, 0), 12);
        due("through(1, 3)", two.through(1, 3), 25);
        due("through(0, 1), which no path has", two.through(0, 1), 0);
        due("through(1, 2), which no path has", two.through(1, 2), 0);
        labelled(two, 3, 3);
        due("through(0, 3) of a label that no path reads", two.through(0, 3), 0);

        AlignmentDesk six = labelled(sixFramesOf(1111), 1);
        for (int t = 0; t < 6; t++) {
            int having = (t + 1) * (6 - t);
            due("through(" + t + ", 1) of six frames", six.through(t, 1), having);
            due("through(" + t + ", 0) of six frames", six.through(t, 0), 21 - having);
        }
        due("through(0, 3) of one frame", labelled(desk(8000), 3).through(0, 3), 8);
        due("through(0, 0) of weight 0", desk(8880).through(0, 0), 0);
    }

    private static void throughNoFrame() {
        for (int t : NOT_OF_TWO_FRAMES) {
            for (int m = 0; m <= 3; m++) {
                due("through(" + t + ", " + m + ")", twoFrames().through(t, m), BAD);
            }
        }
        due("through(0, 0) without frames", new AlignmentDesk().through(0, 0), BAD);
        due("through(6, 0) of six frames", sixFramesOf(1111).through(6, 0), BAD);
        due("through(-1, 0) of six frames", sixFramesOf(1111).through(-1, 0), BAD);
        due("through(2, 0) of a label that no path reads", labelled(desk(1, 1), 1, 1).through(2, 0), BAD);
        AlignmentDesk dropped = desk(1111, 1111);
        dropped.dropFrame();
        due("through(1, 0) after dropFrame()", dropped.through(1, 0), BAD);
    }

    private static void throughNoMark() {
        for (int m : NOT_A_MARK) {
            due("through(0, " + m + ")", twoFrames().through(0, m), BAD);
            due("through(1, " + m + ")", twoFrames().through(1, m), BAD);
            due("through(2, " + m + ")", twoFrames().through(2, m), BAD);
            due("through(-1, " + m + ")", twoFrames().through(-1, m), BAD);
            due("through(0, " + m + ") of no path", labelled(desk(1), 1, 1).through(0, m), BAD);
        }
        due("through(5, 4) of six frames", sixFramesOf(1111).through(5, 4), BAD);
    }

    private static void prefixIsTheBeginning() {
        AlignmentDesk desk = onlyPath(1, 2, 1, 3);
        int[][] beginning = {{}, {1}, {1, 2}, {1, 2, 1}};
        for (int[] label : beginning) {
            due("prefix() of the first " + label.length, labelled(desk, label).prefix(), 1);
        }
        int[][] others = {{2}, {3}, {1, 3}, {2, 1}, {1, 1}, {2, 1, 3}, {1, 2, 3}, {1, 2, 2}, {1, 2, 1, 2}};
        for (int[] label : others) {
            due("prefix() of another " + label.length, labelled(desk, label).prefix(), 0);
        }
    }

    private static void prefixItselfToo() {
        due("prefix() of 2 for 2", labelled(desk(8765), 2).prefix(), 7);
        AlignmentDesk four = labelled(onlyPath(1, 0, 1, 2, 3, 3), 1, 1, 2, 3);
        due("prefix() of 1, 1, 2, 3 for 1 0 1 2 3 3", four.prefix(), 1);
        due("prefix() of the empty label for blanks", sixFramesOf(2).prefix(), 64);
        AlignmentDesk longer = labelled(desk(8888), 2, 2);
        due("prefix() of a label longer than all readings", longer.prefix(), 0);
    }

    private static void prefixOfNoneAndOfFour() {
        due("prefix() of the empty label", sixFramesOf(8888).prefix(), 1 << 30);
        // Only 1 2 1 2 is left at the first four frames, and then anything:
        // readings of five and six marks begin with the label too.
        AlignmentDesk six = labelled(desk(10, 100, 10, 100, 8888, 8888), 1, 2, 1, 2);
        due("prefix() of four", six.prefix(), 1024);
        AlignmentDesk five = labelled(onlyPath(3, 2, 1, 3, 2), 3, 2, 1, 3);
        due("prefix() of four for a reading of five", five.prefix(), 1);
        due("prefix() of 1, 1, 1, 1 in six frames", labelled(sixFramesOf(8888), 1, 1, 1, 1).prefix(), 0);
    }

    private static void everythingFromNoneToMost() {
        AlignmentDesk desk = labelled(desk(), 1, 1, 1, 1);
        int product = 1;
        due("everything() of none", desk.everything(), product);
        for (int count = 1; count <= 6; count++) {
            desk.frame(8888);
            product *= 32;
            due("everything() of " + count, desk.everything(), product);
        }
        desk.weigh(5, 3, 0);
        due("everything() with one weight 0", desk.everything(), 24 << 25);
        due("everything() with a frame of 0", desk(8888, 0).everything(), 0);
    }

    private static void bestNextByTotal() {
        // 1 0 weighs 10 and 1 1 nothing; 2 0 and 2 2 weigh 6 each; 1 2 weighs 10.
        due("bestNext() of totals 10, 12 and 0", desk(350, 202).bestNext(), 2);
        due("bestNext() of 8, 7 and 7", desk(7780).bestNext(), 1);
        due("bestNext() of 7, 8 and 7", desk(7870).bestNext(), 2);
        due("bestNext() of 7, 7 and 8", desk(8770).bestNext(), 3);
        AlignmentDesk four = labelled(desk(1111, 1111, 1111, 4381), 1, 2, 1);
        due("bestNext() of a label of three in four frames", four.bestNext(), 3);
        due("bestNext() of 8^6", labelled(sixFramesOf(8888), 1).bestNext(), 2);
    }

    private static void bestNextOfEqualTotals() {
        due("bestNext() of three equal", desk(8888).bestNext(), 1);
        due("bestNext() of 1 and 2", desk(110).bestNext(), 1);
        due("bestNext() of 1 and 3", desk(1010).bestNext(), 1);
        due("bestNext() of 2 and 3", desk(2210).bestNext(), 2);
        due("bestNext() of 2 and 3 after 1", labelled(desk(8888, 8888), 1).bestNext(), 2);
        due("bestNext() of 1 and 3 after 2", labelled(desk(8888, 8888), 2).bestNext(), 1);
        due("bestNext() of 1 and 2 after 3", labelled(desk(8888, 8888), 3).bestNext(), 1);
    }

    private static void bestNextOfNone() {
        due("bestNext() without frames", new AlignmentDesk().bestNext(), 0);
        due("bestNext() of paths of weight 0", desk(8).bestNext(), 0);
        due("bestNext() of weights 0", sixFramesOf(0).bestNext(), 0);
        due("bestNext() of a label as long as the frames", labelled(desk(8888), 1).bestNext(), 0);
        due("bestNext() of a label longer than the frames", labelled(desk(8888), 1, 2, 1).bestNext(), 0);
        AlignmentDesk five = labelled(desk(8888, 8888, 8888, 8888, 8888), 1, 1, 1);
        due("bestNext() of 1, 1, 1 in five frames", five.bestNext(), 0);
        due("bestNext() of 1, 1, 1 in six frames", labelled(sixFramesOf(8888), 1, 1, 1).bestNext(), 2);
        due("bestNext() of the weight 1 alone", desk(1000).bestNext(), 3);
    }

    private static void bestNextOfFour() {
        AlignmentDesk six = labelled(onlyPath(1, 2, 3, 1, 2, 2), 1, 2, 3);
        due("bestNext() of three", six.bestNext(), 0);
        AlignmentDesk even = labelled(sixFramesOf(8888), 1, 2, 3);
        due("bestNext() of three with paths", even.bestNext(), 1);
        six.write(1);
        due("bestNext() of four for a reading of five", six.bestNext(), 0);
        due("length() after it", six.length(), 4);
        even.write(1);
        due("bestNext() of four with paths", even.bestNext(), 0);
        even.rub();
        due("bestNext() of three after rub()", even.bestNext(), 1);
    }

    private static void bestAtOfTheGreatest() {
        // 0 1 weighs 12, 1 0 weighs 10, 1 1 weighs 15.
        AlignmentDesk desk = labelled(desk(54, 32), 1);
        dueBestPath(desk, 1, 1);
        desk.weigh(1, 0, 8);
        dueBestPath(desk, 1, 0);
        desk.weigh(1, 0, 0);
        desk.weigh(0, 0, 8);
        dueBestPath(desk, 0, 1);
        dueBestPath(labelled(onlyPath(3, 3, 0, 3, 2, 2), 3, 3, 2), 3, 3, 0, 3, 2, 2);
        dueBestPath(labelled(desk(8000), 3), 3);
    }

    private static void bestAtOfEqualWeights() {
        for (int weights : new int[] {8888, 1111, 0}) {
            AlignmentDesk six = sixFramesOf(weights);
            dueBestPath(six, 0, 0, 0, 0, 0, 0);
            dueBestPath(labelled(six, 3), 0, 0, 0, 0, 0, 3);
            dueBestPath(labelled(six, 1, 1), 0, 0, 0, 1, 0, 1);
            dueBestPath(labelled(six, 3, 2, 1), 0, 0, 0, 3, 2, 1);
            dueBestPath(labelled(six, 1, 2, 3, 1), 0, 0, 1, 2, 3, 1);
        }
        // 1 0 0, 1 1 0 and 1 1 1 weigh 1, the others that read 1 weigh nothing.
        dueBestPath(labelled(desk(10, 11, 11), 1), 1, 0, 0);
        // 0 1 and 1 0 weigh 6, 1 1 weighs 4.
        dueBestPath(labelled(desk(23, 23), 1), 0, 1);
        // 1 2 2 and 1 1 2 weigh 1, those with a blank nothing.
        dueBestPath(labelled(desk(1110, 1110, 1110), 1, 2), 1, 1, 2);
        dueBestPath(labelled(desk(1110, 1110, 1110), 2, 1), 2, 1, 1);
    }

    private static void bestAtOfNoPath() {
        due("bestAt(0) of 1, 2 in one frame", labelled(desk(8888), 1, 2).bestAt(0), BAD);
        due("bestAt(0) of 1, 1 in two frames", labelled(desk(8888, 8888), 1, 1).bestAt(0), BAD);
        AlignmentDesk six = labelled(sixFramesOf(8888), 1, 1, 1, 1);
        for (int t = 0; t < 6; t++) {
            due("bestAt(" + t + ") of 1, 1, 1, 1 in six frames", six.bestAt(t), BAD);
        }
        due("bestAt(6) of 1, 1, 1, 1 in six frames", six.bestAt(6), BAD);
        due("bestAt(0) of 1 without frames", labelled(desk(), 1).bestAt(0), BAD);
        // A path of weight 0 reads all the same.
        due("bestAt(0) of a path of weight 0", labelled(desk(0), 3).bestAt(0), 3);
        due("bestAt(0) of a blank of weight 0", desk(8880).bestAt(0), 0);
    }

    private static void bestAtNoFrame() {
        for (int t : NOT_OF_TWO_FRAMES) {
            due("bestAt(" + t + ")", twoFrames().bestAt(t), BAD);
        }
        due("bestAt(0) without frames", new AlignmentDesk().bestAt(0), BAD);
        due("bestAt(-1) without frames", new AlignmentDesk().bestAt(-1), BAD);
        AlignmentDesk six = labelled(sixFramesOf(1111), 3);
        due("bestAt(5) of six frames", six.bestAt(5), 3);
        due("bestAt(6) of six frames", six.bestAt(6), BAD);
        six.dropFrame();
        due("bestAt(5) after dropFrame()", six.bestAt(5), BAD);
        due("bestAt(4) after dropFrame()", six.bestAt(4), 3);
    }

    private static void questionsChangeNothing() {
        AlignmentDesk[] desks = {
            new AlignmentDesk(), labelled(desk(), 1, 2, 3, 1), twoFrames(), sixFramesOf(4321),
            labelled(sixFramesOf(4321), 1, 2, 3), labelled(sixFramesOf(4321), 1, 2, 3, 1)};
        for (AlignmentDesk desk : desks) {
            refused(desk, "frames()", desk::frames, desk.frames());
            refused(desk, "length()", desk::length, desk.length());
            refused(desk, "bestNext()", desk::bestNext, desk.bestNext());
            refused(desk, "bestAt(0)", () -> desk.bestAt(0), desk.bestAt(0));
            refused(desk, "through(0, 0)", () -> desk.through(0, 0), desk.through(0, 0));
            refused(desk, "total()", desk::total, desk.total());
        }
        due("write(2) after questions to a label of three", desks[4].write(2), 4);
        due("rub() after it", desks[4].rub(), 2);
        due("rub() once more", desks[4].rub(), 3);
        due("dropFrame() after questions to six frames", desks[3].dropFrame(), 5);
    }
}
