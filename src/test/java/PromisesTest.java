/** One method for each promise of the document, with answers worked out by hand. */
public final class PromisesTest {
    private static final int BAD = AlignmentDesk.BAD;
    private static final int FULL = AlignmentDesk.FULL;
    private static final int[] NOT_A_MARK = {-1, 4, 5, -4, Integer.MIN_VALUE, Integer.MAX_VALUE};
    private static final int[] NOT_A_WEIGHT = {-1, 9, 10, Integer.MIN_VALUE, Integer.MAX_VALUE};
    private static final Check check = new Check("PromisesTest");

    public static void main(String[] args) {
        promise1NewObject();
        promise2Frame();
        promise2FrameWrongWeights();
        promise2FrameFull();
        promise3DropFrame();
        promise4Weigh();
        promise4WeighWrong();
        promise5Write();
        promise6Rub();
        promise7Frames();
        promise8Length();
        promise9Total();
        promise10Paths();
        promise11Best();
        promise12Through();
        promise13Prefix();
        promise14Everything();
        promise15BestNext();
        promise16BestAt();
        promise17OrderAndLimits();
        check.end();
    }

    /** A desk with these frames, in their order. */
    private static AlignmentDesk desk(int... frames) {
        AlignmentDesk desk = new AlignmentDesk();
        for (int weights : frames) {
            desk.frame(weights);
        }
        return desk;
    }

    private static void setLabel(AlignmentDesk desk, int... marks) {
        for (int left = desk.length(); left > 0; left--) {
            desk.rub();
        }
        for (int m : marks) {
            desk.write(m);
        }
    }

    private static void promise1NewObject() {
        check.due("1: BAD", BAD, -1);
        check.due("1: FULL", FULL, -2);
        AlignmentDesk desk = new AlignmentDesk();
        check.due("1: frames()", desk.frames(), 0);
        check.due("1: length()", desk.length(), 0);
        check.due("1: total()", desk.total(), 1);
        check.due("1: rub()", desk.rub(), BAD);
        check.due("1: dropFrame()", desk.dropFrame(), BAD);

        desk.frame(1111);
        desk.write(3);
        AlignmentDesk other = new AlignmentDesk();
        check.due("1: frames() of another object", other.frames(), 0);
        check.due("1: length() of another object", other.length(), 0);
        other.frame(2222);
        check.due("1: everything() beside another object", desk.everything(), 4);
    }

    private static void promise2Frame() {
        AlignmentDesk desk = new AlignmentDesk();
        check.due("2: frame(4321)", desk.frame(4321), 0);
        check.due("2: through(0, 0)", desk.through(0, 0), 1);
        for (int m = 1; m <= 3; m++) {
            setLabel(desk, m);
            check.due("2: total() of label " + m, desk.total(), m + 1);
        }
        check.due("2: frame(0)", desk.frame(0), 1);
        check.due("2: everything() with a frame of weights 0", desk.everything(), 0);
        check.due("2: frame(8888)", desk.frame(8888), 2);
        check.due("2: frame(8)", desk.frame(8), 3);
        check.due("2: frame(8000)", desk.frame(8000), 4);
        check.due("2: frames()", desk.frames(), 5);
    }

    private static void promise2FrameWrongWeights() {
        for (int weights = -2000; weights <= 20000; weights++) {
            boolean right = weights >= 0 && weights <= 8888 && !Integer.toString(weights).contains("9");
            AlignmentDesk desk = desk(1111);
            check.due("2: frame(" + weights + ")", desk.frame(weights), right ? 1 : BAD);
            check.due("2: frames() after frame(" + weights + ")", desk.frames(), right ? 2 : 1);
        }
        int[] far = {Integer.MIN_VALUE, Integer.MAX_VALUE, 100000, 65536, -8888};
        for (int weights : far) {
            check.due("2: frame(" + weights + ")", desk().frame(weights), BAD);
        }
    }

    private static void promise2FrameFull() {
        AlignmentDesk desk = new AlignmentDesk();
        for (int t = 0; t < 6; t++) {
            check.due("2: frame(2) for " + t, desk.frame(2), t);
        }
        check.due("2: frame(3) when full", desk.frame(3), FULL);
        check.due("2: frame(8888) when full", desk.frame(8888), FULL);
        check.due("2: frame(9) when full", desk.frame(9), BAD);
        check.due("2: frame(-1) when full", desk.frame(-1), BAD);
        check.due("2: frame(8889) when full", desk.frame(8889), BAD);
        check.due("2: frames() when full", desk.frames(), 6);
        check.due("2: everything() when full", desk.everything(), 64);
        desk.dropFrame();
        check.due("2: frame(3) after dropFrame()", desk.frame(3), 5);
        check.due("2: everything() after dropFrame()", desk.everything(), 96);
    }

    private static void promise3DropFrame() {
        AlignmentDesk desk = desk(2, 3, 5);
        desk.write(1);
        check.due("3: dropFrame() of three", desk.dropFrame(), 2);
        check.due("3: everything() of two", desk.everything(), 6);
        check.due("3: dropFrame() of two", desk.dropFrame(), 1);
        check.due("3: everything() of one", desk.everything(), 2);
        check.due("3: dropFrame() of one", desk.dropFrame(), 0);
        check.due("3: everything() of none", desk.everything(), 1);
        check.due("3: dropFrame() of none", desk.dropFrame(), BAD);
        check.due("3: dropFrame() of none again", desk.dropFrame(), BAD);
        check.due("3: frames()", desk.frames(), 0);
        check.due("3: length()", desk.length(), 1);
        check.due("3: frame(7)", desk.frame(7), 0);
        check.due("3: everything() with the new frame", desk.everything(), 7);
    }

    private static void promise4Weigh() {
        AlignmentDesk desk = desk(1111, 1111, 1111, 1111, 1111, 1111);
        for (int t = 0; t < 6; t++) {
            for (int m = 0; m < 4; m++) {
                check.due("4: weigh(" + t + ", " + m + ", 8)", desk.weigh(t, m, 8), true);
                check.due("4: everything() with one 8", desk.everything(), 1024 * 11);
                check.due("4: weigh(" + t + ", " + m + ", 0)", desk.weigh(t, m, 0), true);
                check.due("4: everything() with one 0", desk.everything(), 1024 * 3);
                check.due("4: weigh(" + t + ", " + m + ", 1)", desk.weigh(t, m, 1), true);
                check.due("4: everything() with no other", desk.everything(), 4096);
            }
        }

        AlignmentDesk two = desk(1111, 1111);
        two.weigh(0, 1, 5);
        two.weigh(1, 2, 7);
        setLabel(two, 1, 2);
        check.due("4: total() of 1, 2", two.total(), 35);
        setLabel(two, 2, 1);
        check.due("4: total() of 2, 1", two.total(), 1);
    }

    private static void promise4WeighWrong() {
        AlignmentDesk none = new AlignmentDesk();
        check.due("4: weigh(0, 0, 1) without frames", none.weigh(0, 0, 1), false);

        AlignmentDesk desk = desk(1111, 1111, 1111);
        desk.dropFrame();
        int[] notAFrame = {-1, 2, 3, 6, Integer.MIN_VALUE, Integer.MAX_VALUE};
        for (int t : notAFrame) {
            check.due("4: weigh(" + t + ", 0, 2)", desk.weigh(t, 0, 2), false);
        }
        for (int m : NOT_A_MARK) {
            check.due("4: weigh(0, " + m + ", 2)", desk.weigh(0, m, 2), false);
            check.due("4: weigh(1, " + m + ", 2)", desk.weigh(1, m, 2), false);
        }
        for (int w : NOT_A_WEIGHT) {
            check.due("4: weigh(0, 0, " + w + ")", desk.weigh(0, 0, w), false);
        }
        check.due("4: everything() after refused calls", desk.everything(), 16);
    }

    private static void promise5Write() {
        AlignmentDesk desk = desk(1111);
        desk.write(2);
        check.due("5: total() of 2", desk.total(), 1);
        for (int m : NOT_A_MARK) {
            check.due("5: write(" + m + ")", desk.write(m), BAD);
        }
        check.due("5: write(0)", desk.write(0), BAD);
        check.due("5: length() after refused calls", desk.length(), 1);
        check.due("5: write(1)", desk.write(1), 2);
        check.due("5: write(3)", desk.write(3), 3);
        check.due("5: write(3) again", desk.write(3), 4);
        check.due("5: write(1) to four", desk.write(1), FULL);
        check.due("5: write(2) to four", desk.write(2), FULL);
        check.due("5: write(3) to four", desk.write(3), FULL);
        check.due("5: length() of four", desk.length(), 4);
        check.due("5: rub() after refused calls", desk.rub(), 3);
        check.due("5: write(1) after rub()", desk.write(1), 4);
    }

    private static void promise6Rub() {
        AlignmentDesk desk = desk(1111);
        setLabel(desk, 1, 2, 3, 1);
        check.due("6: rub() the fourth", desk.rub(), 1);
        check.due("6: length()", desk.length(), 3);
        check.due("6: rub() the third", desk.rub(), 3);
        check.due("6: rub() the second", desk.rub(), 2);
        check.due("6: total() of what is left", desk.total(), 1);
        check.due("6: rub() the first", desk.rub(), 1);
        check.due("6: rub() of none", desk.rub(), BAD);
        check.due("6: rub() of none again", desk.rub(), BAD);
        check.due("6: length() of none", desk.length(), 0);
        check.due("6: frames()", desk.frames(), 1);
    }

    private static void promise7Frames() {
        AlignmentDesk desk = new AlignmentDesk();
        for (int count = 0; count < 6; count++) {
            check.due("7: frames()", desk.frames(), count);
            desk.frame(1);
        }
        desk.frame(1);
        check.due("7: frames() when full", desk.frames(), 6);
        desk.dropFrame();
        desk.frame(9);
        desk.write(1);
        check.due("7: frames() after dropFrame()", desk.frames(), 5);
    }

    private static void promise8Length() {
        AlignmentDesk desk = new AlignmentDesk();
        for (int count = 0; count < 4; count++) {
            check.due("8: length()", desk.length(), count);
            desk.write(2);
        }
        desk.write(2);
        check.due("8: length() when full", desk.length(), 4);
        desk.rub();
        desk.write(0);
        desk.frame(1);
        check.due("8: length() after rub()", desk.length(), 3);
    }

    private static void promise9Total() {
        // 1 1 weighs 9, 0 1 and 1 0 weigh 6 each.
        AlignmentDesk desk = desk(32, 32);
        setLabel(desk, 1);
        check.due("9: total() of 1", desk.total(), 21);
        setLabel(desk);
        check.due("9: total() of the empty label", desk.total(), 4);
        setLabel(desk, 1, 1);
        check.due("9: total() of 1, 1 in two frames", desk.total(), 0);
        desk.frame(32);
        check.due("9: total() of 1, 1 in three frames", desk.total(), 18);
        setLabel(desk, 2);
        check.due("9: total() of a mark of weight 0", desk.total(), 0);

        AlignmentDesk none = new AlignmentDesk();
        check.due("9: total() without frames", none.total(), 1);
        none.write(1);
        check.due("9: total() of 1 without frames", none.total(), 0);
    }

    private static void promise10Paths() {
        AlignmentDesk desk = desk(0, 0, 0);
        check.due("10: paths() of the empty label", desk.paths(), 1);
        setLabel(desk, 3);
        check.due("10: paths() of 3", desk.paths(), 6);
        setLabel(desk, 3, 3);
        check.due("10: paths() of 3, 3", desk.paths(), 1);
        setLabel(desk, 3, 1);
        check.due("10: paths() of 3, 1", desk.paths(), 5);
        setLabel(desk, 3, 1, 2);
        check.due("10: paths() of 3, 1, 2", desk.paths(), 1);
        setLabel(desk, 3, 1, 1);
        check.due("10: paths() of 3, 1, 1", desk.paths(), 0);
        setLabel(desk, 3, 1, 2, 1);
        check.due("10: paths() of 3, 1, 2, 1", desk.paths(), 0);

        AlignmentDesk none = new AlignmentDesk();
        check.due("10: paths() without frames", none.paths(), 1);
        none.write(2);
        check.due("10: paths() of 2 without frames", none.paths(), 0);
    }

    private static void promise11Best() {
        AlignmentDesk desk = desk(32, 32);
        setLabel(desk, 1);
        check.due("11: best() of 1", desk.best(), 9);
        desk.weigh(0, 0, 5);
        check.due("11: best() of 1 with a heavier blank", desk.best(), 15);
        setLabel(desk, 1, 1);
        check.due("11: best() of 1, 1", desk.best(), 0);
        setLabel(desk, 2);
        check.due("11: best() of weight 0", desk.best(), 0);
        check.due("11: best() without frames", new AlignmentDesk().best(), 1);

        AlignmentDesk full = desk(8888, 8888, 8888, 8888, 8888, 8888);
        setLabel(full, 1, 2, 3, 1);
        check.due("11: best() of the greatest weights", full.best(), 262144);
    }

    private static void promise12Through() {
        AlignmentDesk desk = desk(32, 34);
        setLabel(desk, 1);
        check.due("12: through(0, 0)", desk.through(0, 0), 6);
        check.due("12: through(0, 1)", desk.through(0, 1), 21);
        check.due("12: through(0, 2)", desk.through(0, 2), 0);
        check.due("12: through(0, 3)", desk.through(0, 3), 0);
        check.due("12: through(1, 0)", desk.through(1, 0), 12);
        check.due("12: through(1, 1)", desk.through(1, 1), 15);
        setLabel(desk, 1, 1);
        check.due("12: through(0, 1) of no path", desk.through(0, 1), 0);

        int[] notAFrame = {-1, 2, 6, Integer.MIN_VALUE, Integer.MAX_VALUE};
        for (int t : notAFrame) {
            check.due("12: through(" + t + ", 0)", desk.through(t, 0), BAD);
        }
        for (int m : NOT_A_MARK) {
            check.due("12: through(0, " + m + ")", desk.through(0, m), BAD);
        }
        check.due("12: through(0, 0) without frames", new AlignmentDesk().through(0, 0), BAD);
        desk.dropFrame();
        check.due("12: through(1, 0) after dropFrame()", desk.through(1, 0), BAD);
    }

    private static void promise13Prefix() {
        // To the 21 of label 1 come 1 2 and 1 3, which weigh 3 each.
        AlignmentDesk desk = desk(1132, 1132);
        check.due("13: prefix() of the empty label", desk.prefix(), 49);
        setLabel(desk, 1);
        check.due("13: prefix() of 1", desk.prefix(), 27);
        setLabel(desk, 1, 2);
        check.due("13: prefix() of 1, 2", desk.prefix(), 3);
        setLabel(desk, 2, 1);
        check.due("13: prefix() of 2, 1", desk.prefix(), 3);
        setLabel(desk, 1, 1);
        check.due("13: prefix() of 1, 1", desk.prefix(), 0);

        // Only 1 2 1 2 is left at the first four frames, and then anything.
        AlignmentDesk six = desk(10, 100, 10, 100, 1111, 1111);
        setLabel(six, 1, 2, 1, 2);
        check.due("13: prefix() of four, with longer readings", six.prefix(), 16);
        // Of those 0 0, 2 0 and 2 2 add nothing to the reading.
        check.due("13: total() of the same four", six.total(), 3);

        AlignmentDesk none = new AlignmentDesk();
        check.due("13: prefix() without frames", none.prefix(), 1);
        none.write(1);
        check.due("13: prefix() of 1 without frames", none.prefix(), 0);
    }

    private static void promise14Everything() {
        AlignmentDesk desk = desk();
        check.due("14: everything() without frames", desk.everything(), 1);
        desk.write(3);
        check.due("14: everything() whatever the label", desk.everything(), 1);
        desk.frame(1234);
        check.due("14: everything() of one", desk.everything(), 10);
        desk.frame(8);
        check.due("14: everything() of two", desk.everything(), 80);
        desk.frame(0);
        check.due("14: everything() with weights 0", desk.everything(), 0);
        AlignmentDesk full = desk(8888, 8888, 8888, 8888, 8888, 8888);
        check.due("14: everything() of the greatest weights", full.everything(), 1073741824);
    }

    private static void promise15BestNext() {
        check.due("15: bestNext() without frames", new AlignmentDesk().bestNext(), 0);
        check.due("15: bestNext() of the first", desk(1281).bestNext(), 1);
        check.due("15: bestNext() of the second", desk(1821).bestNext(), 2);
        check.due("15: bestNext() of the third", desk(8121).bestNext(), 3);
        check.due("15: bestNext() of three equal", desk(2220).bestNext(), 1);
        check.due("15: bestNext() of two equal", desk(2210).bestNext(), 2);
        check.due("15: bestNext() of all 0", desk(8).bestNext(), 0);

        // Mark 1 weighs most, but with no room for a blank it can't follow itself.
        AlignmentDesk two = desk(1280, 1280);
        two.write(1);
        check.due("15: bestNext() after 1", two.bestNext(), 2);
        check.due("15: length() after bestNext()", two.length(), 1);

        AlignmentDesk six = desk(1111, 1111, 1111, 1111, 1111, 1111);
        setLabel(six, 1, 2, 1);
        check.due("15: bestNext() of a label of three", six.bestNext(), 2);
        six.write(2);
        check.due("15: bestNext() of a label of four", six.bestNext(), 0);
    }

    private static void promise16BestAt() {
        check.due("16: bestAt(0) without frames", new AlignmentDesk().bestAt(0), BAD);

        AlignmentDesk desk = desk(32, 32);
        setLabel(desk, 1);
        check.due("16: bestAt(0) of 1 1", desk.bestAt(0), 1);
        check.due("16: bestAt(1) of 1 1", desk.bestAt(1), 1);
        desk.weigh(1, 0, 5);
        check.due("16: bestAt(1) of 1 0", desk.bestAt(1), 0);
        int[] notAFrame = {-1, 2, 6, Integer.MIN_VALUE, Integer.MAX_VALUE};
        for (int t : notAFrame) {
            check.due("16: bestAt(" + t + ")", desk.bestAt(t), BAD);
        }

        // 0 1, 1 0 and 1 1 weigh the same, whether that is 1 or 0.
        int[] even = {11, 0};
        for (int weights : even) {
            AlignmentDesk equal = desk(weights, weights);
            setLabel(equal, 1);
            check.due("16: bestAt(0) of equal weights", equal.bestAt(0), 0);
            check.due("16: bestAt(1) of equal weights", equal.bestAt(1), 1);
        }

        // The least path is 0 2 1, although frame 2 has lesser marks in others.
        AlignmentDesk three = desk(1111, 1111, 1111);
        setLabel(three, 2, 1);
        check.due("16: bestAt(0) of 0 2 1", three.bestAt(0), 0);
        check.due("16: bestAt(1) of 0 2 1", three.bestAt(1), 2);
        check.due("16: bestAt(2) of 0 2 1", three.bestAt(2), 1);
        setLabel(three, 2, 2, 1);
        check.due("16: bestAt(0) of no path", three.bestAt(0), BAD);
        check.due("16: bestAt(3) of no path", three.bestAt(3), BAD);
    }

    private static void promise17OrderAndLimits() {
        AlignmentDesk desk = new AlignmentDesk();
        setLabel(desk, 1, 1, 1, 1);
        check.due("17: write(0) to four", desk.write(0), BAD);
        for (int m : NOT_A_MARK) {
            check.due("17: write(" + m + ") to four", desk.write(m), BAD);
        }
        check.due("17: write(1) to four", desk.write(1), FULL);
        check.due("17: length()", desk.length(), 4);
    }
}
