/** The boundaries of promises 2 write, 3 name, 4 parent and of the terms NAMES and TEXT. */
public final class NameBoundsTest {
    public static void main(String[] args) {
        theTextIsFullWith24();
        theTextTakesCodes32To126();
        aRefusedCharacterIsNotInTheText();
        aComponentHas1To3Characters();
        aComponentIsOfLettersAndDigits();
        aNameHasAtMostFourComponents();
        aNameIsTypedWithSlashesBetween();
        theNameWithoutComponentsIsTypedAsASlash();
        nameZeroIsThereAtFirst();
        beginningsAreMadeBeforeTheShortestFirst();
        beginningsThatAreThereAreNotMadeAgain();
        thereAreAtMost48Names();
        with2NoneOfItsPrefixesIsMade();
        namesThatAreThereNeedNoRoom();
        wrongTypingIsToldAheadOfNoRoom();
        theTextIsEmptyInEveryCase();
        nameZeroHasNoParent();
        noSuchNameHasNoParent();
        aNameIsAPrefixOfItself();
        aPrefixIsOfWholeComponents();
        Check.end();
    }

    private static void theTextIsFullWith24() {
        Check.says("false if 24 are there");
        NameNet net = new NameNet(1, 1, 1);
        for (int round = 0; round < 2; round++) {
            for (int i = 1; i <= 24; i++) {
                Check.due("character " + i, net.write('a'), true);
            }
            Check.due("character 25", net.write('a'), false);
            Check.due("once more", net.write('/'), false);
            net.name();
        }
    }

    private static void theTextTakesCodes32To126() {
        Check.says("or its code is not 32 .. 126");
        for (int code = 0; code <= 700; code++) {
            boolean fits = code >= 32 && code <= 126;
            Check.due("code " + code, new NameNet(1, 1, 1).write((char) code), fits);
        }
        Check.due("code 32768", new NameNet(1, 1, 1).write((char) 32768), false);
        Check.due("code 65535", new NameNet(1, 1, 1).write((char) 65535), false);
    }

    private static void aRefusedCharacterIsNotInTheText() {
        Check.says("Appends a character to the text: true; false if");
        NameNet net = new NameNet(1, 1, 1);
        net.write((char) 127);
        Check.write(net, "/");
        net.write((char) 31);
        Check.write(net, "a");
        net.write((char) (256 + 'a'));
        Check.due("/a", net.name(), 1);
        Check.due("/a is it", Check.name(net, "/a"), 1);
    }

    private static void aComponentHas1To3Characters() {
        Check.says("COMPONENTS, each 1 to 3 characters");
        NameNet net = new NameNet(1, 1, 1);
        Check.due("none", Check.name(net, "//b"), -1);
        Check.due("none in the middle", Check.name(net, "/a//b"), -1);
        Check.due("four", Check.name(net, "/aaaa"), -1);
        Check.due("four, then one", Check.name(net, "/aaaa/b"), -1);
        Check.due("one, then four", Check.name(net, "/a/bbbb"), -1);
        Check.due("twenty-three", Check.name(net, "/aaaaaaaaaaaaaaaaaaaaaaa"), -1);
        Check.due("one", Check.name(net, "/a"), 1);
        Check.due("two", Check.name(net, "/aa"), 2);
        Check.due("three", Check.name(net, "/aaa"), 3);
        Check.due("three everywhere", Check.name(net, "/aaa/bbb/ccc/ddd"), 6);
    }

    private static void aComponentIsOfLettersAndDigits() {
        Check.says("each 1 to 3 characters a .. z, 0 .. 9");
        NameNet net = new NameNet(1, 1, 1);
        int made = 0;
        for (char c = 32; c <= 126; c++) {
            boolean fits = c >= 'a' && c <= 'z' || c >= '0' && c <= '9';
            made += fits ? 1 : 0;
            Check.due("/" + c, Check.name(net, "/" + c), fits ? made : -1);
        }
        Check.due("behind a letter", Check.name(net, "/aA"), -1);
        Check.due("ahead of a letter", Check.name(net, "/ aa"), -1);
        Check.due("in a later component", Check.name(net, "/a/b/c/-"), -1);
        Check.due("36 were made", net.parent(37), -1);
    }

    private static void aNameHasAtMostFourComponents() {
        Check.says("NAMES are rows of at most four COMPONENTS");
        NameNet net = new NameNet(1, 1, 1);
        Check.due("five", Check.name(net, "/a/b/c/d/e"), -1);
        Check.due("twelve", Check.name(net, "/a/b/c/d/e/f/g/h/i/j/k/l"), -1);
        Check.due("none was made", net.parent(1), -1);
        Check.due("four", Check.name(net, "/a/b/c/d"), 4);
        Check.due("five behind four", Check.name(net, "/a/b/c/d/e"), -1);
    }

    private static void aNameIsTypedWithSlashesBetween() {
        Check.says("a name is typed as / and its components with / between them, none behind");
        NameNet net = new NameNet(1, 1, 1);
        String[] wrong = {"", "a", "a/b", "a/", "/a/", "/a/b/c/d/", "//", "//a", "/a//", " /a",
            "/a ", "/ /a", "/a/ ", "                        "};
        for (String text : wrong) {
            Check.due("\"" + text + "\"", Check.name(net, text), -1);
        }
        Check.due("none was made", net.parent(1), -1);
        Check.due("/a/b", Check.name(net, "/a/b"), 2);
    }

    private static void theNameWithoutComponentsIsTypedAsASlash() {
        Check.says("(the name without components: / alone)");
        NameNet net = new NameNet(1, 1, 1);
        Check.due("/", Check.name(net, "/"), 0);
        Check.due("nothing", net.name(), -1);
        Check.due("two slashes", Check.name(net, "//"), -1);
    }

    private static void nameZeroIsThereAtFirst() {
        Check.says("name 0, which has no components, is there at first");
        NameNet net = new NameNet(1, 1, 1);
        Check.due("a call with name 0", net.announce(0, 0, true), 1);
        Check.due("a call with name 1", net.announce(0, 1, true), -1);
        Check.due("the first that is made", Check.name(net, "/0"), 1);
    }

    private static void beginningsAreMadeBeforeTheShortestFirst() {
        Check.says("all names that are beginnings of it and not there yet are made before it, the");
        NameNet net = new NameNet(1, 1, 1);
        Check.due("/a/b/c/d", Check.name(net, "/a/b/c/d"), 4);
        Check.due("/a", Check.name(net, "/a"), 1);
        Check.due("/a/b", Check.name(net, "/a/b"), 2);
        Check.due("/a/b/c", Check.name(net, "/a/b/c"), 3);
    }

    private static void beginningsThatAreThereAreNotMadeAgain() {
        Check.says("beginnings of it and not there yet are made");
        NameNet net = new NameNet(1, 1, 1);
        Check.due("/a/b", Check.name(net, "/a/b"), 2);
        Check.due("/b/b", Check.name(net, "/b/b"), 4);
        Check.due("/a/b/c/d", Check.name(net, "/a/b/c/d"), 6);
        Check.due("parent of /a/b/c", net.parent(5), 2);
        Check.due("/b/b/c", Check.name(net, "/b/b/c"), 7);
        Check.due("parent of /b/b/c", net.parent(7), 4);
    }

    private static void thereAreAtMost48Names() {
        Check.says("-2 if there would be more than 48 names");
        NameNet net = new NameNet(1, 1, 1);
        Nets.fillNames(net, 46);
        Check.due("the 47th", Check.name(net, "/a"), 46);
        Check.due("the 48th and a 49th", Check.name(net, "/b/c"), -2);
        Check.due("the 48th", Check.name(net, "/b"), 47);
        Check.due("the 49th", Check.name(net, "/c"), -2);
        Check.due("the 49th below one that is there", Check.name(net, "/b/c"), -2);
        Check.due("no name 48", net.parent(48), -1);
    }

    private static void with2NoneOfItsPrefixesIsMade() {
        Check.says("(With -2 none of its prefixes is made.)");
        NameNet net = new NameNet(1, 1, 1);
        Nets.fillNames(net, 45);
        Check.due("four more", Check.name(net, "/a/b/c/d"), -2);
        Check.due("no name 45", net.parent(45), -1);
        Check.due("another one takes the number", Check.name(net, "/x"), 45);
        Check.due("three more", Check.name(net, "/a/b/c"), -2);
        Check.due("no name 46", net.parent(46), -1);
        Check.due("two more", Check.name(net, "/a/b"), 47);
    }

    private static void namesThatAreThereNeedNoRoom() {
        Check.says("The text as a name, which is made if it is not there: its number");
        NameNet net = new NameNet(1, 1, 1);
        int d = Check.make(net, "/a/b/c/d");
        Check.make(net, "/e/f");
        Nets.fillNames(net, 47);
        Check.due("/g", Check.name(net, "/g"), 47);
        Check.due("full", Check.name(net, "/h"), -2);
        Check.due("/", Check.name(net, "/"), 0);
        Check.due("/a/b/c/d", Check.name(net, "/a/b/c/d"), d);
        Check.due("/e", Check.name(net, "/e"), d + 1);
        Check.due("/g", Check.name(net, "/g"), 47);
    }

    private static void wrongTypingIsToldAheadOfNoRoom() {
        Check.says("Refused: -1 if it is not typed as a name; -2 if");
        NameNet net = new NameNet(1, 1, 1);
        Nets.fillNames(net, 48);
        Check.due("neither typed nor room", Check.name(net, "/x/"), -1);
        Check.due("five components and no room", Check.name(net, "/x/x/x/x/x"), -1);
        Check.due("empty and no room", net.name(), -1);
        Check.due("typed, no room", Check.name(net, "/x/x"), -2);
    }

    private static void theTextIsEmptyInEveryCase() {
        Check.says("The text is empty then in every case.");
        NameNet net = new NameNet(1, 1, 1);
        Check.due("made", Check.name(net, "/a"), 1);
        Check.due("empty behind a name that was made", net.name(), -1);
        Check.due("there", Check.name(net, "/a"), 1);
        Check.due("empty behind a name that was there", Check.name(net, "/"), 0);
        Check.due("not typed as a name", Check.name(net, "/a/"), -1);
        Check.due("empty behind -1", Check.name(net, "/a"), 1);
        Nets.fillNames(net, 48);
        Check.due("no room", Check.name(net, "/b"), -2);
        Check.due("empty behind -2", Check.name(net, "/a"), 1);
        for (int i = 0; i < 24; i++) {
            net.write('/');
        }
        Check.due("full", net.name(), -1);
        Check.due("room behind it", net.write('/'), true);
        Check.due("for /", net.name(), 0);
    }

    private static void nameZeroHasNoParent() {
        Check.says("NONE if there is no such name or it is name 0");
        NameNet net = new NameNet(1, 1, 1);
        Check.due("parent of 0", net.parent(0), -1);
        Check.make(net, "/a/b");
        Check.due("parent of /a", net.parent(1), 0);
        Check.due("parent of /a/b", net.parent(2), 1);
        Check.due("parent of 0 still", net.parent(0), -1);
    }

    private static void noSuchNameHasNoParent() {
        Check.says("NONE if there is no such name");
        NameNet net = new NameNet(1, 1, 1);
        Check.due("parent of 1", net.parent(1), -1);
        Check.due("parent of -1", net.parent(-1), -1);
        Nets.fillNames(net, 48);
        Check.due("parent of 47", net.parent(47), 0);
        Check.due("parent of 48", net.parent(48), -1);
        Check.due("parent of 49", net.parent(49), -1);
        Check.due("parent of the least", net.parent(Integer.MIN_VALUE), -1);
        Check.due("parent of the greatest", net.parent(Integer.MAX_VALUE), -1);
    }

    /** Node 0 publishes one name and asks for another one, prefixed. */
    private static int askPrefixed(String published, String asked) {
        NameNet net = new NameNet(0, 1, 1);
        net.publish(0, Check.make(net, published), 5, 0);
        net.announce(0, 0, true);
        return net.request(net.ask(0, Check.make(net, asked), 1, 0), 0);
    }

    private static void aNameIsAPrefixOfItself() {
        Check.says("A name is a PREFIX of itself");
        Check.due("/a of /a", askPrefixed("/a", "/a"), 1);
        Check.due("/ of /", askPrefixed("/", "/"), 1);
        Check.due("/a/b/c/d of itself", askPrefixed("/a/b/c/d", "/a/b/c/d"), 1);
    }

    private static void aPrefixIsOfWholeComponents() {
        Check.says("and of all names that begin with its components");
        Check.due("/ of /a", askPrefixed("/a", "/"), 1);
        Check.due("/ of /a/b/c/d", askPrefixed("/a/b/c/d", "/"), 1);
        Check.due("/a of /a/b/c/d", askPrefixed("/a/b/c/d", "/a"), 1);
        Check.due("/a/b/c of /a/b/c/d", askPrefixed("/a/b/c/d", "/a/b/c"), 1);
        Check.due("/a of /ab", askPrefixed("/ab", "/a"), 2);
        Check.due("/a of /b/a", askPrefixed("/b/a", "/a"), 2);
        Check.due("/a/b of /a", askPrefixed("/a", "/a/b"), 2);
        Check.due("/a/c of /a/b", askPrefixed("/a/b", "/a/c"), 2);
    }
}
