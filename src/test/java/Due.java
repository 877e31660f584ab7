/** Compares answers with those that are due, and counts the wrong ones. */
final class Due {
    private int wrong = 0;
    private int asked = 0;
    private String part = "";

    void part(String name) {
        part = name;
    }

    void is(String call, long got, long due) {
        asked++;
        if (got != due) {
            wrong++;
            System.out.println(part + ": " + call + " answered " + got + ", due is " + due);
        }
    }

    boolean allRight() {
        return wrong == 0;
    }

    /** Ends the program with exit code 1 if an answer was wrong. */
    void end() {
        System.out.println(wrong == 0 ? asked + " answers are as due" : wrong + " of " + asked + " answers are not as due");
        if (wrong != 0) {
            System.exit(1);
        }
    }

    /** Appends the characters of a text. */
    static void append(LikeRecords object, String text) {
        for (int i = 0; i < text.length(); i++) {
            object.append(text.charAt(i));
        }
    }

    /** Appends a text and reads it. */
    static int read(LikeRecords object, String text) {
        append(object, text);
        return object.read();
    }

    /** The text of a record as it comes back. */
    static String back(LikeRecords object, int record) {
        StringBuilder text = new StringBuilder();
        for (int i = 0; i < 200; i++) {
            int code = object.character(record, i);
            if (code < 0) {
                break;
            }
            text.append((char) code);
        }
        return text.toString();
    }
}
