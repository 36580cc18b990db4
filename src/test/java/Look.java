/** All that can be seen of an object without changing it, as a text: two objects that are alike look alike. */
final class Look {
    private Look() {
    }

    /** What an image has. */
    static String at(ItalicsLean x) {
        StringBuilder told = new StringBuilder();
        for (int what = 0; what < 7; what++) {
            add(told, "about" + what, x.about(what));
        }
        for (int what = 0; what < 4; what++) {
            add(told, "is" + what, x.is(what));
        }
        for (int i = 0; i < x.about(0); i++) {
            for (int what = 0; what < 4; what++) {
                add(told, "of" + i + what, x.of(i, what));
            }
            for (int what = 0; what < 3; what++) {
                add(told, "seat" + i + what, x.seat(i, what));
            }
        }
        book(told, x);
        add(told, "props", x.props(false));
        add(told, "narrowest1", x.narrowest(1));
        add(told, "narrowest2", x.narrowest(2));
        add(told, "page", x.page(40, 0));
        add(told, "hears", x.hears(0, 1, 50));
        add(told, "meant0", x.meant(3, 0));
        add(told, "meant1", x.meant(3, 1));
        add(told, "whose", x.whose());
        return told.toString();
    }

    /** What an image has, the tape's length and the latest fault. */
    static String all(ItalicsLean x) {
        StringBuilder told = new StringBuilder(at(x));
        add(told, "tape", x.about(7));
        add(told, "fault", x.fault(0));
        add(told, "place", x.fault(1));
        return told.toString();
    }

    private static void book(StringBuilder told, ItalicsLean x) {
        int many = x.book(ItalicsLean.NONE, 0);
        add(told, "book", many);
        for (int i = 0; i < many; i++) {
            add(told, "", x.book(i, 0));
            add(told, "", x.book(i, 1));
            add(told, "", x.book(i, 2));
        }
    }

    private static void add(StringBuilder told, String what, int answer) {
        told.append(what).append('=').append(answer).append(' ');
    }
}
