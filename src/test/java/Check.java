/** Counts the answers of a test that are not as due, and ends it. */
final class Check {
    private final String name;
    private int asked;
    private int wrong;

    Check(String name) {
        this.name = name;
    }

    void due(String call, long got, long want) {
        asked++;
        if (got != want) {
            wrong++;
            System.out.println(name + ": " + call + " answered " + got + ", due is " + want);
        }
    }

    void end() {
        System.out.println(name + ": " + asked + " answers, " + wrong + " not as due");
        if (wrong != 0 || asked == 0) {
            System.exit(1);
        }
    }

    /** Feeds a text and reads it. */
    static int tell(FindOrder x, String text) {
        for (int i = 0; i < text.length(); i++) {
            x.feed(text.charAt(i));
        }
        return x.read();
    }

    static FindOrder told(String text) {
        FindOrder x = new FindOrder();
        if (tell(x, text) < 0) {
            throw new IllegalStateException(text);
        }
        // nothing is done by a fault, so nothing of this may show in any answer
        if (tell(x, "+0qq;+2qq;-1a;7:rr;!") != -119) {
            throw new IllegalStateException(text);
        }
        return x;
    }

    static String paper(FindOrder x) {
        StringBuilder text = new StringBuilder();
        int size = x.spell();
        for (int i = 0; i < size; i++) {
            text.append((char) x.paper(i));
        }
        return text.toString();
    }
}
