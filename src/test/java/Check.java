/** What the tests share: it counts the answers that are not due and ends the program with code 1 if there was one. */
final class Check {
    static final Class<?> INDEX = IndexOutOfBoundsException.class;
    static final Class<?> ARGUMENT = IllegalArgumentException.class;
    static final Class<?> STATE = IllegalStateException.class;
    static final Class<?> NO_ELEMENT = java.util.NoSuchElementException.class;

    private static int checked = 0;
    private static int wrong = 0;
    // the sentence of the document that is tested now, and the number of answers ahead of its test
    private static String sentence = "";
    private static int checkedAhead = -1;

    interface Call {
        Object answer();
    }

    private Check() {
    }

    static void due(String call, Object got, Object want) {
        checked++;
        if (!String.valueOf(got).equals(String.valueOf(want))) {
            wrong++;
            System.out.println(sentence + call + " answered " + got + ", due is " + want);
        }
    }

    /** Begins the test of a sentence that stands in this section or promise; one without answers is wrong. */
    static void edge(String where, String itsSentence) {
        endOfSentence();
        sentence = where + ", \"" + itsSentence + "\":\n    ";
        checkedAhead = checked;
    }

    private static void endOfSentence() {
        if (checked == checkedAhead) {
            wrong++;
            System.out.println(sentence + "nothing was tested");
        }
    }

    /** The answer of a call, or the name of the class of what it throws. */
    static String answer(Call call) {
        try {
            return String.valueOf(call.answer());
        } catch (RuntimeException e) {
            return "throws " + e.getClass().getName();
        }
    }

    static void refused(String call, Class<?> want, Call made) {
        due(call, answer(made), "throws " + want.getName());
    }

    /** Appends a text, 20 bytes a call; tells the length of the text buffer. */
    static int type(BuoyString x, String text) {
        int length = x.append(0, 0, 0, 0, 0);
        for (int p = 0; p < text.length(); p += 20) {
            int[] words = new int[5];
            for (int i = 0; i < 20; i++) {
                int sign = p + i < text.length() ? text.charAt(p + i) : 0;
                words[i / 4] = words[i / 4] << 8 | sign;
            }
            length = x.append(words[0], words[1], words[2], words[3], words[4]);
        }
        return length;
    }

    static BuoyString loaded(String setup) {
        BuoyString x = new BuoyString();
        type(x, setup);
        due("load() of " + setup, x.load() >= 2, true);
        return x;
    }

    /** A setup of buoys with a VOTE of 1 and a HOLD of 9, one behind the other; TOLERANCE 5, LIMIT 2, CALM 2. */
    static String setupOf(int buoys) {
        StringBuilder setup = new StringBuilder("terms 5 2 2;");
        for (int b = 0; b < buoys; b++) {
            setup.append("buoy ").append(b).append(" 1 9;");
        }
        return setup.toString();
    }

    static BuoyString stringOf(int buoys) {
        return loaded(setupOf(buoys));
    }

    static int play(BuoyString x, String script) {
        type(x, script);
        return x.play();
    }

    static void loadError(String setup, int code, int position) {
        BuoyString x = new BuoyString();
        type(x, setup);
        due("load() of " + setup, x.load() + " " + x.errorCode() + " " + x.errorPosition(),
                "-1 " + code + " " + position);
        due("append() behind " + setup, x.append(0, 0, 0, 0, 0), 0);
        due("buoys behind " + setup, x.size(0) + " " + x.size(8), "2 20");
    }

    static void playError(BuoyString x, String script, int code, int position) {
        type(x, script);
        String before = everything(x);
        due("play() of " + script, x.play() + " " + x.errorCode() + " " + x.errorPosition(),
                "-1 " + code + " " + position);
        due("append() behind " + script, x.append(0, 0, 0, 0, 0), 0);
        due("the string behind " + script, everything(x), before);
    }

    static String written(BuoyString x, int length) {
        StringBuilder text = new StringBuilder();
        for (int i = 0; i < length; i++) {
            text.append((char) x.output(i));
        }
        return text.toString();
    }

    static String string(BuoyString x) {
        return written(x, x.writeString());
    }

    static String hours(BuoyString x) {
        return written(x, x.writeHours());
    }

    /** What hour(hour, 0 to 4) and level(hour) tell; a question mark for no level. */
    static String told(BuoyString x, int hour) {
        return x.hour(hour, 0) + " " + x.hour(hour, 1) + " " + x.hour(hour, 2) + " " + x.hour(hour, 3) + " "
                + x.hour(hour, 4) + " " + (x.hour(hour, 2) == 1 ? "" + x.level(hour) : "?");
    }

    /** Ends an hour with these reports, and looks at what is told of it. */
    static void hour(BuoyString x, String reports, String want) {
        play(x, "hour " + reports + ";");
        due("the hour " + reports, told(x, x.size(1) - 1), want);
    }

    /** Numbers that buoy() tells, with spaces between them. */
    static String buoy(BuoyString x, int buoy, int... whats) {
        StringBuilder all = new StringBuilder();
        for (int what : whats) {
            all.append(all.length() == 0 ? "" : " ").append(x.buoy(buoy, what));
        }
        return all.toString();
    }

    /** A string with a dragged buoy, a broken rope, a worn one, two hours, a report, an output and a saved state. */
    static BuoyString usedString() {
        BuoyString x = loaded("terms 5 2 2;buoy 0 1 9;buoy 10 1 9;buoy 30 1 9;buoy 60 1 9;stock 25;");
        play(x, "hour 0 0 1 0 2 0 3 50;hour 0 0 1 0 2 0 3 50;storm 11 2 3;storm 3 0 1;");
        x.report(0, 5);
        x.save(0);
        x.writeString();
        due("the string", string(x), "0T-1T-2T 3D");
        return x;
    }

    /** The accounts, with spaces between them. */
    static String accounts(BuoyString x) {
        return x.account(0) + " " + x.account(1) + " " + x.account(2) + " " + x.account(3) + " " + x.account(4);
    }

    /** All numbers that size(), buoy(), rope(), account() and hour() tell. */
    static String everything(BuoyString x) {
        StringBuilder all = new StringBuilder();
        for (int what = 0; what <= 16; what++) {
            all.append(x.size(what)).append(' ');
        }
        for (int b = 0; b < x.size(0); b++) {
            all.append("\nbuoy ").append(b);
            for (int what = 0; what <= 9; what++) {
                all.append(' ').append(x.buoy(b, what));
            }
        }
        for (int k = 0; k + 1 < x.size(0); k++) {
            all.append("\nrope ").append(k);
            for (int what = 0; what <= 3; what++) {
                all.append(' ').append(x.rope(k, what));
            }
        }
        all.append("\naccounts");
        for (int what = 0; what <= 4; what++) {
            all.append(' ').append(x.account(what));
        }
        for (int h = x.size(1) - x.size(2); h < x.size(1); h++) {
            all.append("\nhour ").append(h);
            for (int what = 0; what <= 4; what++) {
                all.append(' ').append(x.hour(h, what));
            }
            int hour = h;
            all.append(' ').append(answer(() -> x.level(hour)));
            for (int b = 0; b < x.size(0); b++) {
                int buoy = b;
                all.append(' ').append(x.why(h, b)).append(' ').append(answer(() -> x.value(hour, buoy)));
            }
        }
        return all.toString();
    }

    static String allButAccounts(BuoyString x) {
        return everything(x).replaceAll("\naccounts[^\n]*", "");
    }

    /** What undo() brings back: everything but the accounts and the number of acts that can be undone. */
    static String world(BuoyString x) {
        String all = allButAccounts(x);
        String[] sizes = all.substring(0, all.indexOf('\n')).split(" ");
        sizes[12] = "-";
        return String.join(" ", sizes) + all.substring(all.indexOf('\n'));
    }

    static void end(String name) {
        endOfSentence();
        System.out.println(name + ": " + checked + " answers, " + wrong + " wrong");
        if (wrong > 0) {
            System.exit(1);
        }
    }
}
