/** Promises 17 to 23. Curve 0 is ROWS of 16 by 16, curve 1 TURNING of 4 by 4, curve 2 WOVEN of 4 by 4 by 4. */
public final class WindowTest {
    private WindowTest() {
    }

    public static void main(String[] args) {
        corners();
        spans();
        spansTouch();
        manySpans();
        span();
        few();
        fewKeepsTheFirst();
        beyond();
        jump();
        jumpRefused();
        Due.end();
    }

    private static CurveShelf curves() {
        CurveShelf x = new CurveShelf();
        x.curve(0, 2, 4, 4, 0);
        x.curve(2, 2, 2, 0, 0);
        x.curve(1, 3, 2, 0, 0);
        return x;
    }

    private static CurveShelf window(int ax, int ay, int az, int bx, int by, int bz) {
        CurveShelf x = curves();
        x.low(ax, ay, az);
        x.high(bx, by, bz);
        return x;
    }

    private static void told(CurveShelf x, long... ends) {
        for (int i = 0; i < ends.length / 2; i++) {
            Due.is("first of " + i, x.span(i, 0), ends[2 * i]);
            Due.is("last of " + i, x.span(i, 1), ends[2 * i + 1]);
        }
        Due.is("no more", x.span(ends.length / 2, 0), -1);
    }

    private static void corners() {
        CurveShelf x = curves();
        Due.is("at first 0 0 0", x.spans(2), 1);
        told(x, 0, 0);
        x.high(1, 2, 0);
        Due.is("the high corner alone", x.spans(0), 2);
        told(x, 0, 2, 16, 18);
        x.low(1, 1, 0);
        Due.is("then the low one", x.spans(0), 1);
        told(x, 17, 18);
        x.low(Integer.MIN_VALUE, 1, 0);
        Due.is("any wholes, of no curve", x.spans(0), -1);
        x.low(0, 0, 0);
        x.high(0, 0, Integer.MAX_VALUE);
        Due.is("any wholes, of no curve", x.spans(0), -1);
        Due.is("nor of one with z", x.spans(2), -1);
        x.high(0, 0, 3);
        Due.is("of the one with z", x.spans(2), 2);
        told(x, 0, 1, 8, 9);
        Due.is("not of one without", x.spans(0), -1);
        told(x, 0, 1, 8, 9);
    }

    private static void spans() {
        Due.is("no curve", window(0, 0, 0, 1, 1, 0).spans(3), -1);
        Due.is("curve -1", window(0, 0, 0, 1, 1, 0).spans(-1), -1);
        Due.is("low above high by x", window(2, 0, 0, 1, 1, 0).spans(0), -1);
        Due.is("by y", window(0, 2, 0, 1, 1, 0).spans(0), -1);
        Due.is("by z", window(0, 0, 2, 1, 1, 1).spans(2), -1);
        Due.is("beyond x", window(0, 0, 0, 16, 1, 0).spans(0), -1);
        Due.is("beyond y", window(0, 0, 0, 1, 16, 0).spans(0), -1);
        Due.is("below 0", window(0, -1, 0, 1, 1, 0).spans(0), -1);
        Due.is("z with two axes", window(0, 0, 1, 1, 1, 1).spans(0), -1);
        CurveShelf x = window(1, 2, 0, 3, 4, 0);
        Due.is("three rows", x.spans(0), 3);
        told(x, 18, 20, 34, 36, 50, 52);
        Due.is("not of 4 by 4", x.spans(1), -1);
        told(x, 18, 20, 34, 36, 50, 52);
    }

    private static void spansTouch() {
        CurveShelf x = window(1, 0, 0, 3, 15, 0);
        Due.is("whole rows are one", x.spans(0), 1);
        told(x, 16, 63);
        // TURNING: (0,0) (0,1) (1,1) (1,0) (2,0) (3,0) (3,1) (2,1) (2,2) (3,2) (3,3) (2,3) (1,3) (1,2) (0,2) (0,3).
        CurveShelf y = window(1, 1, 0, 2, 2, 0);
        Due.is("the middle of TURNING", y.spans(1), 3);
        told(y, 2, 2, 7, 8, 13, 13);
        CurveShelf left = window(0, 0, 0, 1, 3, 0);
        Due.is("its left half", left.spans(1), 2);
        told(left, 0, 3, 12, 15);
        CurveShelf low = window(0, 0, 0, 3, 1, 0);
        Due.is("its low half", low.spans(1), 1);
        told(low, 0, 7);
        CurveShelf all = window(0, 0, 0, 3, 3, 3);
        Due.is("all of space", all.spans(2), 1);
        told(all, 0, 63);
        CurveShelf one = window(3, 3, 3, 3, 3, 3);
        Due.is("one place", one.spans(2), 1);
        told(one, 63, 63);
    }

    private static void manySpans() {
        CurveShelf x = new CurveShelf();
        x.curve(0, 2, 8, 4, 0);
        x.high(199, 2, 0);
        Due.is("200 spans", x.spans(0), 200);
        Due.is("the last one", x.span(199, 1), 199 * 16 + 2);
        x.high(200, 2, 0);
        Due.is("201", x.spans(0), -2);
        Due.is("those told stay", x.span(199, 1), 199 * 16 + 2);
        Due.is("all of them", x.few(1000), 200);
        Due.is("with their window", x.beyond(), 0);
        x.high(200, 15, 0);
        Due.is("but one of whole rows", x.spans(0), 1);
        Due.is("is told", x.span(0, 1), 200 * 16 + 15);
        Due.is("none at 1", x.span(1, 0), -1);
        x.low(56, 1, 0);
        x.high(255, 15, 0);
        Due.is("200 up to the end", x.spans(0), 200);
        Due.is("the end", x.span(199, 1), 4095);
    }

    private static void span() {
        CurveShelf x = window(1, 2, 0, 2, 4, 0);
        Due.is("none told yet", x.span(0, 0), -1);
        x.spans(0);
        Due.is("first", x.span(1, 0), 34);
        Due.is("last", x.span(1, 1), 36);
        Due.is("which 2", x.span(1, 2), -1);
        Due.is("which -1", x.span(1, -1), -1);
        Due.is("i 2", x.span(2, 0), -1);
        Due.is("i -1", x.span(-1, 0), -1);
        Due.is("i greatest", x.span(Integer.MAX_VALUE, 0), -1);
        x.low(0, 0, 0);
        Due.is("they stay when the window goes on", x.span(0, 0), 18);
    }

    private static void few() {
        CurveShelf x = window(1, 1, 0, 2, 2, 0);
        Due.is("none told", x.few(3), 0);
        x.spans(1);
        Due.is("n 0", x.few(0), -1);
        Due.is("n -1", x.few(-1), -1);
        Due.is("n least", x.few(Integer.MIN_VALUE), -1);
        told(x, 2, 2, 7, 8, 13, 13);
        Due.is("as many as there are", x.few(3), 3);
        Due.is("more than there are", x.few(Integer.MAX_VALUE), 3);
        told(x, 2, 2, 7, 8, 13, 13);
        // Four numbers between both pairs: the first pair.
        Due.is("two", x.few(2), 2);
        told(x, 2, 8, 13, 13);
        Due.is("one", x.few(1), 1);
        told(x, 2, 13);
    }

    private static void fewKeepsTheFirst() {
        CurveShelf x = new CurveShelf();
        x.curve(1, 2, 2, 0, 0);
        x.high(2, 3, 0);
        // WOVEN of 4 by 4 without x 3: the numbers 0 .. 9, 12, 13.
        Due.is("spans", x.spans(0), 2);
        told(x, 0, 9, 12, 13);
        x.low(0, 1, 0);
        // Without y 0, too: 1, 3 .. 7, 9, 12, 13.
        Due.is("spans", x.spans(0), 4);
        told(x, 1, 1, 3, 7, 9, 9, 12, 13);
        Due.is("three: the first of two gaps of one", x.few(3), 3);
        told(x, 1, 7, 9, 9, 12, 13);
        Due.is("two", x.few(2), 2);
        told(x, 1, 9, 12, 13);
    }

    private static void beyond() {
        CurveShelf x = window(1, 1, 0, 2, 2, 0);
        Due.is("without any", x.beyond(), 0);
        x.spans(1);
        Due.is("just the window's", x.beyond(), 0);
        x.few(2);
        Due.is("3 .. 6 more", x.beyond(), 4);
        x.low(0, 0, 0);
        x.high(3, 3, 0);
        Due.is("of the window whose spans they were", x.beyond(), 4);
        x.few(1);
        Due.is("9 .. 12 more", x.beyond(), 8);
        x.spans(3);
        Due.is("a refused call leaves it", x.beyond(), 8);
        x.spans(1);
        Due.is("others are told", x.beyond(), 0);
    }

    private static void jump() {
        CurveShelf x = window(1, 1, 0, 2, 2, 0);
        long[] from = {Long.MIN_VALUE, -2, -1, 0, 1, 2, 3, 6, 7, 8, 12, 13, 14, 15, 16, Long.MAX_VALUE};
        long[] to = {2, 2, 2, 2, 2, 7, 7, 7, 8, 13, 13, -1, -1, -1, -1, -1};
        for (int i = 0; i < from.length; i++) {
            Due.is("jump from " + from[i], x.jump(1, from[i]), to[i]);
        }
        CurveShelf all = window(0, 0, 0, 15, 15, 0);
        Due.is("to the first", all.jump(0, -1), 0);
        Due.is("to the last", all.jump(0, 254), 255);
        Due.is("no further", all.jump(0, 255), -1);
        x.spans(1);
        x.jump(1, 3);
        told(x, 2, 2, 7, 8, 13, 13);
    }

    private static void jumpRefused() {
        CurveShelf x = window(1, 1, 0, 2, 2, 0);
        Due.is("no curve", x.jump(3, 0), -1);
        Due.is("curve -1", x.jump(-1, 0), -1);
        x.high(0, 2, 0);
        Due.is("a window of none", x.jump(1, 0), -1);
        x.high(2, 4, 0);
        Due.is("not of this one", x.jump(1, 0), -1);
        Due.is("but of that", x.jump(0, 0), 17);
    }
}
