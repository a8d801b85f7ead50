import java.nio.charset.StandardCharsets;

/** Counts answers that are not as due; feeds texts to an AlmostTax. */
final class Check {
    private int wrong = 0;
    private int asked = 0;

    void due(String call, long got, long want) {
        asked++;
        if (got != want) {
            wrong++;
            System.out.println(call + " answered " + got + ", due is " + want);
        }
    }

    void due(String call, boolean got, boolean want) {
        due(call, got ? 1L : 0L, want ? 1L : 0L);
    }

    /** A call's answer and its status. */
    void due(String call, AlmostTax x, long got, long want, int status) {
        due(call, got, want);
        due("status() behind " + call, x.status(), status);
    }

    void due(String call, AlmostTax x, boolean got, boolean want, int status) {
        due(call, got, want);
        due("status() behind " + call, x.status(), status);
    }

    void dueFraction(String call, AlmostTax x, boolean got, long top, long bottom) {
        due(call, x, got, true, 0);
        due("top() behind " + call, x.top(), top);
        due("bottom() behind " + call, x.bottom(), bottom);
    }

    void dueFault(String text, AlmostTax x, int got, int kind, int place) {
        due(text, x, got, -1, 10);
        due("fault(0) of " + text, x.fault(0), kind);
        due("fault(1) of " + text, x.fault(1), place);
    }

    /** The ints that feed() takes, of a text filled up with blanks to twenties. */
    static int[] intsOf(byte[] text) {
        int twenties = (text.length + 19) / 20;
        int[] ints = new int[twenties * 5];
        for (int i = 0; i < twenties * 20; i++) {
            int b = i < text.length ? text[i] & 255 : 32;
            ints[i / 4] = ints[i / 4] << 8 | b;
        }
        return ints;
    }

    static byte[] bytesOf(String text) {
        return text.getBytes(StandardCharsets.ISO_8859_1);
    }

    static void feed(AlmostTax x, String text) {
        int[] i = intsOf(bytesOf(text));
        for (int k = 0; k < i.length; k += 5) {
            x.feed(i[k], i[k + 1], i[k + 2], i[k + 3], i[k + 4]);
        }
    }

    static int land(AlmostTax x, String text) {
        feed(x, text);
        return x.land(text.length());
    }

    static int decades(AlmostTax x, String text) {
        feed(x, text);
        return x.decades(text.length());
    }

    static AlmostTax landOf(String text) {
        AlmostTax x = new AlmostTax();
        if (land(x, text) < 0) {
            throw new IllegalStateException("no land: " + text + ": fault " + x.fault(0) + " at " + x.fault(1));
        }
        return x;
    }

    void finish() {
        System.out.println(wrong == 0 ? "all " + asked + " answers are as due" : wrong + " of " + asked + " answers are not as due");
        if (wrong != 0) {
            System.exit(1);
        }
    }
}
