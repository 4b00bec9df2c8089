/** What the tests share: counting wrong answers, and typing names. */
final class Check {
    private static int wrong = 0;
    private static String sentence = "";

    private Check() { }

    /** The document's words that a test holds the program to: told with each wrong answer. */
    static void says(String words) {
        sentence = "\"" + words + "\": ";
    }

    static void due(String what, long got, long want) {
        if (got != want) {
            wrong++;
            System.out.println(sentence + what + ": answered " + got + ", due is " + want);
        }
    }

    static void due(String what, boolean got, boolean want) {
        due(what, got ? 1 : 0, want ? 1 : 0);
    }

    /** Ends the program with exit code 1 if an answer was wrong. */
    static void end() {
        System.out.println(wrong == 0 ? "all answers are as due" : wrong + " answers are wrong");
        if (wrong != 0) {
            System.exit(1);
        }
    }

    static void write(NameNet net, String text) {
        for (char c : text.toCharArray()) {
            due("write of a character of " + text, net.write(c), true);
        }
    }

    static int name(NameNet net, String text) {
        write(net, text);
        return net.name();
    }

    /** Makes the name, which is not refused. */
    static int make(NameNet net, String text) {
        int name = name(net, text);
        due("name " + text + " is made", name >= 0, true);
        return name;
    }

    static void carry(NameNet net, int node, int face, int kind) {
        due("carry(" + node + ", " + face + ")", net.carry(node, face), kind);
    }

    static void request(NameNet net, int request, int state, int name, int content) {
        due("state of request " + request, net.request(request, 0), state);
        due("name of request " + request, net.request(request, 1), name);
        due("content of request " + request, net.request(request, 2), content);
    }
}
