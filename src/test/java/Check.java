/** What the tests share: counting wrong answers, telling texts, and which sentence is looked at. */
final class Check {
    private int wrong = 0;
    private int asked = 0;
    private String sentence = "";

    /**
     * What is asked from here on is of this promise, and of this sentence of it or of the terms it speaks in.
     * The words must stand in the document.
     */
    void of(int promise, String words) {
        sentence = "promise " + promise + ", \"" + words + "\": ";
        if (Document.isThere()) holds("these words stand in the document", Document.says(promise, words));
    }

    void due(String call, long got, long want) {
        asked++;
        if (got == want) return;
        wrong++;
        if (wrong <= 50) System.out.println(sentence + call + " answered " + got + ", due is " + want);
    }

    void holds(String what, boolean so) {
        asked++;
        if (so) return;
        wrong++;
        if (wrong <= 50) System.out.println(sentence + "does not hold: " + what);
    }

    boolean isClean() {
        return wrong == 0;
    }

    void end() {
        System.out.println(asked + " answers looked at, " + wrong + " not as due");
        if (wrong != 0) System.exit(1);
    }

    /** Writes a text, eight bytes a call. */
    static int write(EchoFines x, String text) {
        int answer = x.count(8);
        for (int from = 0; from < text.length(); from += 8) {
            int n = Math.min(8, text.length() - from);
            answer = x.write(packed(text, from, n), n);
        }
        return answer;
    }

    static long packed(String text, int from, int n) {
        long bytes = 0;
        for (int i = 0; i < n; i++) bytes |= (long) (text.charAt(from + i) & 255) << 8 * i;
        return bytes;
    }

    /** Writes a text and does it. */
    static int tell(EchoFines x, String text) {
        write(x, text);
        return x.canyon();
    }

    /** A new object to which some texts were told, one after the other. */
    static EchoFines told(String... texts) {
        EchoFines x = new EchoFines();
        for (String text : texts) {
            int answer = tell(x, text);
            if (answer < 1) throw new IllegalStateException(text + ": " + answer + " at " + x.fault());
        }
        return x;
    }

    void fault(String text, int want) {
        EchoFines x = new EchoFines();
        faultOf(x, text, want);
    }

    /** Looks at the fault of a text in the state that an object has, and takes the text back. */
    void faultOf(EchoFines x, String text, int want) {
        write(x, text);
        due("fault of \"" + text + "\"", x.fault(), want);
        if (want != EchoFines.NONE) due("canyon of \"" + text + "\"", x.canyon(), EchoFines.NOT);
        due("bytes of \"" + text + "\"", x.erase(), text.length());
    }

    /** Texts with a ^ ahead of the token, or the end, that is the fault; without one there is no fault. */
    void marked(String... texts) {
        for (String text : texts) markedIn(new EchoFines(), text);
    }

    void markedIn(EchoFines x, String text) {
        faultOf(x, text.replace("^", ""), text.indexOf('^'));
    }
}
