/** All that can be asked of an object, as a text; taking it reads the tape and lays the image back. */
final class Picture {
    private final StringBuilder text = new StringBuilder();

    static String of(FindOrder x) {
        Picture picture = new Picture();
        picture.site(x);
        picture.keeping(x);
        picture.add("read", x.read());
        picture.site(x);
        picture.add("undo", x.undo());
        picture.site(x);
        return picture.text.toString();
    }

    private void add(String what, long answer) {
        text.append(what).append(' ').append(answer).append('\n');
    }

    private void site(FindOrder x) {
        for (int what = 0; what <= 5; what++) {
            add("count", x.count(what));
        }
        for (int g = 0; g < x.count(0); g++) {
            add("age", x.of(g, 0));
            add("set", x.of(g, 1));
        }
        for (int t = 0; t < x.count(1); t++) {
            for (int what = 1; what <= x.type(t, 1) + 1; what++) {
                add("name", x.type(t, what));
            }
        }
        add("first", x.gapless(0));
        add("fewest", x.fewest(1));
        add("clusters", x.clusters());
        add("spell", x.spell());
    }

    private void keeping(FindOrder x) {
        for (int tray = 0; tray <= 3; tray++) {
            for (int t = 0; t < x.count(1); t++) {
                add("laid", x.laid(tray, t));
            }
        }
        for (int list = 0; list <= 2; list++) {
            add("there", x.judge(list, 0));
            for (int i = 0; x.get(list, i) != FindOrder.NO_ITEM; i++) {
                add("item", x.get(list, i));
            }
        }
    }
}
