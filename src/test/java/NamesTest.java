/** Promises 2 write, 3 name, 4 parent. */
public final class NamesTest {
    public static void main(String[] args) {
        promise2TakesPrintableCharactersOnly();
        promise2TakesTwentyFour();
        promise3NumbersNamesAsTheyAreMade();
        promise3RefusesWhatIsNoName();
        promise3EmptiesTheTextInEveryCase();
        promise3MakesAtMostFortyEight();
        promise3MakesNoPrefixWhenThereIsNoRoom();
        promise4TellsTheShorterName();
        Check.end();
    }

    private static void promise2TakesPrintableCharactersOnly() {
        NameNet net = new NameNet(1, 1, 1);
        Check.due("write 31", net.write((char) 31), false);
        Check.due("write 32", net.write((char) 32), true);
        Check.due("write 126", net.write((char) 126), true);
        Check.due("write 127", net.write((char) 127), false);
        Check.due("write 0", net.write((char) 0), false);
        Check.due("write 65535", net.write((char) 65535), false);
        net.name();
        Check.write(net, "/");
        Check.due("write of a line's end", net.write('\n'), false);
        Check.due("write beyond 255", net.write((char) (256 + 'a')), false);
        Check.write(net, "a");
        Check.due("refused characters are not in the text", net.name(), 1);
    }

    private static void promise2TakesTwentyFour() {
        NameNet net = new NameNet(1, 1, 1);
        Check.write(net, "/aaa/bbb/ccc/ddd        ");
        Check.due("the 25th character", net.write('a'), false);
        Check.due("24 characters with blanks", net.name(), -1);
        Check.due("room again", net.write('/'), true);
        Check.due("the name of the new text", net.name(), 0);
        Check.write(net, "                        ");
        Check.due("a 25th that is no character", net.write((char) 5), false);
    }

    private static void promise3NumbersNamesAsTheyAreMade() {
        NameNet net = new NameNet(1, 1, 1);
        Check.due("/", Check.name(net, "/"), 0);
        Check.due("/a", Check.name(net, "/a"), 1);
        Check.due("/b/c/d/e", Check.name(net, "/b/c/d/e"), 5);
        Check.due("/b", Check.name(net, "/b"), 2);
        Check.due("/b/c", Check.name(net, "/b/c"), 3);
        Check.due("/b/c/d", Check.name(net, "/b/c/d"), 4);
        Check.due("/b/c/x again from the middle", Check.name(net, "/b/c/x/y"), 7);
        Check.due("/aaa is not /a", Check.name(net, "/aaa"), 8);
        Check.due("/aa is not /a", Check.name(net, "/aa"), 9);
        Check.due("/a/a is not /aa", Check.name(net, "/a/a"), 10);
        Check.due("/0z9", Check.name(net, "/0z9"), 11);
        Check.due("/0z9 once more", Check.name(net, "/0z9"), 11);
        Check.due("/c is not /b/c", Check.name(net, "/c"), 12);
        Check.due("/zzz/999/aaa/000", Check.name(net, "/zzz/999/aaa/000"), 16);
        Check.due("/a once more", Check.name(net, "/a"), 1);
    }

    private static void promise3RefusesWhatIsNoName() {
        NameNet net = new NameNet(1, 1, 1);
        String[] wrong = {"", "a", "a/b", "//", "//a", "/a//b", "/a/", "/a/b/c/d/", "/abcd",
            "/a/bcde", "/a/b/c/d/e", "/A", "/a b", " /a", "/a ", "/-", "/a.b", "/`", "/{", "/:",
            "/a/Z", "/@"};
        for (String text : wrong) {
            Check.due("\"" + text + "\"", Check.name(net, text), -1);
        }
        Check.due("nothing was made", net.parent(1), -1);
        Check.due("/a comes first", Check.name(net, "/a"), 1);
    }

    private static void promise3EmptiesTheTextInEveryCase() {
        NameNet net = new NameNet(1, 1, 1);
        Check.due("/a", Check.name(net, "/a"), 1);
        Check.due("empty behind a name", net.name(), -1);
        Check.due("no name", Check.name(net, "xx"), -1);
        Check.due("/b", Check.name(net, "/b"), 2);
        fill(net, 48);
        Check.due("no room", Check.name(net, "/zzz"), -2);
        Check.due("/b behind no room", Check.name(net, "/b"), 2);
    }

    /** Makes names until there are as many. */
    private static void fill(NameNet net, int count) {
        for (char c = 'a'; c <= 'z'; c++) {
            for (String first : new String[] {"/", "/x"}) {
                if (net.parent(count - 1) == -1) {
                    Check.make(net, first + c);
                }
            }
        }
        Check.due("name " + (count - 1), net.parent(count - 1), 0);
        Check.due("no name " + count, net.parent(count), -1);
    }

    private static void promise3MakesAtMostFortyEight() {
        NameNet net = new NameNet(1, 1, 1);
        fill(net, 47);
        Check.due("the 48th", Check.name(net, "/new"), 47);
        Check.due("the 49th", Check.name(net, "/mor"), -2);
        Check.due("one that is there", Check.name(net, "/new"), 47);
        Check.due("the first", Check.name(net, "/"), 0);
        Check.due("wrong comes before no room", Check.name(net, "/mor/"), -1);
        Check.due("none was made", net.parent(48), -1);
    }

    private static void promise3MakesNoPrefixWhenThereIsNoRoom() {
        NameNet net = new NameNet(1, 1, 1);
        fill(net, 45);
        Check.due("four more", Check.name(net, "/q1/q2/q3/q4"), -2);
        Check.due("none of them is there", net.parent(45), -1);
        Check.due("three more", Check.name(net, "/q1/q2/q3"), 47);
        Check.due("no more below", Check.name(net, "/q1/q2/q3/q4"), -2);
        Check.due("the prefix", Check.name(net, "/q1"), 45);
    }

    private static void promise4TellsTheShorterName() {
        NameNet net = new NameNet(1, 1, 1);
        Check.due("parent of name 0", net.parent(0), NameNet.NONE);
        Check.due("parent of no name", net.parent(1), NameNet.NONE);
        Check.make(net, "/a/b/c/d");
        Check.make(net, "/a/x");
        Check.due("parent of /a/b/c/d", net.parent(4), 3);
        Check.due("parent of /a/b/c", net.parent(3), 2);
        Check.due("parent of /a/b", net.parent(2), 1);
        Check.due("parent of /a", net.parent(1), 0);
        Check.due("parent of /a/x", net.parent(5), 1);
        Check.due("parent of 6", net.parent(6), NameNet.NONE);
        Check.due("parent of -1", net.parent(-1), NameNet.NONE);
        Check.due("parent of the least int", net.parent(Integer.MIN_VALUE), NameNet.NONE);
        Check.due("parent of the greatest int", net.parent(Integer.MAX_VALUE), NameNet.NONE);
    }
}
