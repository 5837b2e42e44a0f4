/** What the tests share: comparing answers, and writing and reading whole texts. */
final class Check {
    interface Call {
        void run();
    }

    private static int asked;
    private static int wrong;

    private Check() {
    }

    static void due(long want, long got) {
        asked++;
        if (got != want) {
            tell("answered " + got + ", due is " + want);
        }
    }

    static void due(boolean want, boolean got) {
        asked++;
        if (got != want) {
            tell("answered " + got + ", due is " + want);
        }
    }

    static void due(String want, String got) {
        asked++;
        if (!got.equals(want)) {
            tell("answered \"" + got + "\", due is \"" + want + "\"");
        }
    }

    static void outOfBounds(Call call) {
        dueThrow(IndexOutOfBoundsException.class, call);
    }

    static void badArgument(Call call) {
        dueThrow(IllegalArgumentException.class, call);
    }

    static void badState(Call call) {
        dueThrow(IllegalStateException.class, call);
    }

    /** The very class is due: an exception of the machine would be one below it. */
    private static void dueThrow(Class<?> want, Call call) {
        asked++;
        try {
            call.run();
        } catch (RuntimeException e) {
            if (e.getClass() != want) {
                tell("threw " + e.getClass().getName() + ", due is " + want.getName());
            }
            return;
        }
        tell("threw nothing, due is " + want.getName());
    }

    private static void tell(String what) {
        wrong++;
        String where = "?";
        for (StackTraceElement frame : new Throwable().getStackTrace()) {
            if (!frame.getClassName().equals("Check") && !frame.getClassName().equals("Story")) {
                where = frame.getFileName() + ":" + frame.getLineNumber();
                break;
            }
        }
        System.out.println(where + ": " + what);
    }

    static void fail(String what) {
        asked++;
        tell(what);
    }

    static void end() {
        System.out.println(asked + " checks, " + wrong + " wrong");
        if (wrong != 0 || asked == 0) {
            System.exit(1);
        }
    }

    /** Types a text at a site, with / for a split. */
    static void write(Marginnote room, int site, String text) {
        for (int i = 0; i < text.length(); i++) {
            if (text.charAt(i) == '/') {
                room.split(site);
            } else {
                room.type(site, text.charAt(i));
            }
        }
    }

    static Marginnote roomWith(String text) {
        Marginnote room = new Marginnote();
        write(room, 0, text);
        return room;
    }

    static String text(Marginnote room, int site) {
        StringBuilder text = new StringBuilder();
        for (int place = 0; place < room.length(site); place++) {
            text.append(room.letter(site, place));
        }
        return text.toString();
    }

    /** The seen elements' marks, a sign for each one: + if it has it, - if not. */
    static String marks(Marginnote room, int site, int mark) {
        StringBuilder text = new StringBuilder();
        for (int place = 0; place < room.length(site); place++) {
            text.append(room.isMarked(site, place, mark) ? '+' : '-');
        }
        return text.toString();
    }

    /** What is proposed for the seen elements, a digit for each one. */
    static String proposals(Marginnote room, int site) {
        StringBuilder text = new StringBuilder();
        for (int place = 0; place < room.length(site); place++) {
            text.append(room.proposed(site, place));
        }
        return text.toString();
    }

    static int pass(Marginnote room, int from, int to) {
        return room.deliver(room.send(from, to));
    }

    static void select(Marginnote room, int site, int from, int to) {
        room.moveTo(site, from);
        room.extend(site, to);
    }
}
