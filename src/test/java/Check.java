/** What the tests share: it counts the answers that are not due and ends the program with code 1 if there was one. */
final class Check {
    static final Class<?> INDEX = IndexOutOfBoundsException.class;
    static final Class<?> ARGUMENT = IllegalArgumentException.class;
    static final Class<?> STATE = IllegalStateException.class;
    static final Class<?> NO_ELEMENT = java.util.NoSuchElementException.class;

    private static int checked = 0;
    private static int wrong = 0;

    interface Call {
        Object answer();
    }

    private Check() {
    }

    static void due(String call, Object got, Object want) {
        checked++;
        if (!String.valueOf(got).equals(String.valueOf(want))) {
            wrong++;
            System.out.println(call + " answered " + got + ", due is " + want);
        }
    }

    /** The answer of a call, or the name of the class of what it throws. */
    static String answer(Call call) {
        try {
            return String.valueOf(call.answer());
        } catch (RuntimeException e) {
            return "throws " + e.getClass().getName();
        }
    }

    static void refused(String call, Class<?> want, Call made) {
        due(call, answer(made), "throws " + want.getName());
    }

    /** Appends a text, 20 bytes a call; tells the length of the text buffer. */
    static int type(BuoyString x, String text) {
        int length = x.append(0, 0, 0, 0, 0);
        for (int p = 0; p < text.length(); p += 20) {
            int[] words = new int[5];
            for (int i = 0; i < 20; i++) {
                int sign = p + i < text.length() ? text.charAt(p + i) : 0;
                words[i / 4] = words[i / 4] << 8 | sign;
            }
            length = x.append(words[0], words[1], words[2], words[3], words[4]);
        }
        return length;
    }

    static BuoyString loaded(String setup) {
        BuoyString x = new BuoyString();
        type(x, setup);
        due("load() of " + setup, x.load() >= 2, true);
        return x;
    }

    static int play(BuoyString x, String script) {
        type(x, script);
        return x.play();
    }

    static void loadError(String setup, int code, int position) {
        BuoyString x = new BuoyString();
        type(x, setup);
        due("load() of " + setup, x.load() + " " + x.errorCode() + " " + x.errorPosition(),
                "-1 " + code + " " + position);
        due("append() behind " + setup, x.append(0, 0, 0, 0, 0), 0);
        due("buoys behind " + setup, x.size(0) + " " + x.size(8), "2 20");
    }

    static void playError(BuoyString x, String script, int code, int position) {
        type(x, script);
        String before = everything(x);
        due("play() of " + script, x.play() + " " + x.errorCode() + " " + x.errorPosition(),
                "-1 " + code + " " + position);
        due("append() behind " + script, x.append(0, 0, 0, 0, 0), 0);
        due("the string behind " + script, everything(x), before);
    }

    static String written(BuoyString x, int length) {
        StringBuilder text = new StringBuilder();
        for (int i = 0; i < length; i++) {
            text.append((char) x.output(i));
        }
        return text.toString();
    }

    static String string(BuoyString x) {
        return written(x, x.writeString());
    }

    static String hours(BuoyString x) {
        return written(x, x.writeHours());
    }

    /** All numbers that size(), buoy(), rope(), account() and hour() tell. */
    static String everything(BuoyString x) {
        StringBuilder all = new StringBuilder();
        for (int what = 0; what <= 16; what++) {
            all.append(x.size(what)).append(' ');
        }
        for (int b = 0; b < x.size(0); b++) {
            all.append("\nbuoy ").append(b);
            for (int what = 0; what <= 9; what++) {
                all.append(' ').append(x.buoy(b, what));
            }
        }
        for (int k = 0; k + 1 < x.size(0); k++) {
            all.append("\nrope ").append(k);
            for (int what = 0; what <= 3; what++) {
                all.append(' ').append(x.rope(k, what));
            }
        }
        all.append("\naccounts");
        for (int what = 0; what <= 4; what++) {
            all.append(' ').append(x.account(what));
        }
        for (int h = x.size(1) - x.size(2); h < x.size(1); h++) {
            all.append("\nhour ").append(h);
            for (int what = 0; what <= 4; what++) {
                all.append(' ').append(x.hour(h, what));
            }
            int hour = h;
            all.append(' ').append(answer(() -> x.level(hour)));
            for (int b = 0; b < x.size(0); b++) {
                int buoy = b;
                all.append(' ').append(x.why(h, b)).append(' ').append(answer(() -> x.value(hour, buoy)));
            }
        }
        return all.toString();
    }

    /** What undo() brings back: everything but the accounts and the number of acts that can be undone. */
    static String world(BuoyString x) {
        String all = everything(x).replaceAll("\naccounts[^\n]*", "");
        String[] sizes = all.substring(0, all.indexOf('\n')).split(" ");
        sizes[12] = "-";
        return String.join(" ", sizes) + all.substring(all.indexOf('\n'));
    }

    static void end(String name) {
        System.out.println(name + ": " + checked + " answers, " + wrong + " wrong");
        if (wrong > 0) {
            System.exit(1);
        }
    }
}
