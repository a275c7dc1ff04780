import java.io.IOException;
import java.io.UncheckedIOException;
import java.nio.file.Files;
import java.nio.file.Path;
import java.util.List;
import java.util.regex.Matcher;
import java.util.regex.Pattern;

/** The document's Terms, part 3: texts, what was told, the image, sheets, what is in doubt, the interface's order. */
final class DocTerms3 extends DocPart {
    private DocTerms3() { }

    static void run() {
        tape();
        tokens();
        clauses();
        faults();
        done();
        told();
        imageAndSheets();
        inDoubt();
        interfaces();
    }

    private static void says(String promises, String words) {
        Doc.says("Terms 3, promises " + promises, words);
    }

    /** The text is read so, on an object that has two flights. */
    private static void text(String text, int want) {
        CrewPairings x = Plans.calm();
        due(Plans.text(x, text), want);
        due(x.count(2), 0);
    }

    private static void tape() {
        says("29", "THE TAPE (60 bytes at most)");
        CrewPairings x = new CrewPairings();
        String sixty = "base 5;base 5;base 5;base 5;base 5;base 5;base 5;base    015";
        Plans.feed(x, sixty);
        due(x.count(2), 60);
        due(x.feed(1, 32, 0, 0, 0, 0), FULL);
        due(x.count(2), 60);
        says("30", "is read as a TEXT.");
        due(x.text(), 8);
        due(x.count(5), 15);
        Plans.feed(x, sixty.substring(0, 56));
        due(x.feed(5, 32, 32, 32, 32, 32), FULL);
        due(x.feed(4, 32, 48, 48, 52, 0), 60);
        due(x.text(), 8);
        due(x.count(5), 4);
    }

    private static void tokens() {
        says("30", "TOKENS, each as long as can be:");
        CrewPairings x = new CrewPairings();
        due(Plans.text(x, "fee 0 12"), 1);
        due(x.count(10), 12);
        text("fee012", -106);
        text("fee0 12", 1);
        text("basebase 1", -100);

        says("30", "WORDS (as many letters a .. z as stand there),");
        text("base1", 1);
        text("basea1", -100);
        text("basez1", -100);
        text("base`1", -104);
        text("base{1", -104);
        text("baseA1", -104);
        text("baseZ1", -104);
        text("base@1", -104);
        text("base[1", -104);
        text("baSe 1", -100);
        text("BASE 1", -100);

        says("30", "NUMBERS (as many digits as stand there;");
        text("base 9", 1);
        text("base 1/", -106);
        text("base 1:", -106);
        text("base 1fee 0 1", -106);
        x = new CrewPairings();
        due(Plans.text(x, "fly 0 1 090 299"), 1);
        due(x.of(0, 2) * 1000 + x.of(0, 3), 90299);

        says("30", "more than 3 are too long),");
        text("base 009", 1);
        text("base 0009", -105);
        text("fee 0 999", 0);
        text("fee 0 1000", -106);
        text("fee 0 0001", -106);

        says("30", "the SIGN ;");
        text("base 3;base 5", 2);
        text("base 3:base 5", -106);
        text("base 3,base 5", -106);
        text("base 3 base 5", -107);

        says("30", "; blanks (32, 10) may stand between.");
        text(" \n base \n 3 \n ; \n base 5 \n ", 2);
        text("\nbase\n3\n;\nbase\n5\n", 2);
        text("base3;base5", 2);
        for (char c : new char[] {0, 9, 11, 12, 13, 31, 33, 160}) {
            text("base" + c + "3", -104);
            text(c + "base 3", -100);
            text("base 3" + c, -106);
        }
        // not within a token
        text("ba se 3", -100);
        text("fee 0 1 2", -108);
    }

    private static void clauses() {
        says("30", "TEXT: CLAUSES, one or more,");
        text("", -100);
        text(" \n", -102);
        text("base 3", 1);
        text("base 3;base 5;base 6", 3);
        says("30", "with ; between.");
        text("base 3 base 5", -107);
        text(";", -100);
        text(";base 3", -100);
        text("base 3;", -107);
        text("base 3;;base 5", -107);

        says("30", "CLAUSE: fly (4 NUMBERS: FROM, TO, DEP, ARR),");
        CrewPairings x = new CrewPairings();
        due(Plans.text(x, "fly 1 2 3 40"), 1);
        due(x.of(0, 0) * 1000 + x.of(0, 1) * 100 + x.of(0, 2) * 10, 1230);
        due(x.of(0, 3), 40);
        text("fly 1 2 3", -109);
        text("fly 1 2 3 40 5", -113);
        says("30", "kind (3: AIRPORT, KIND, FIGURE),");
        due(Plans.text(x, "kind 1 2 3"), 1);
        due(x.told(1, 0) * 10 + x.told(1, 1), 23);
        text("kind 1 2", -108);
        text("kind 1 2 3 4", -111);
        says("30", "base (1: bits),");
        due(Plans.text(x, "base 6"), 1);
        due(x.count(5), 6);
        text("base", -104);
        text("base 6 1", -107);
        says("30", "fee (2: which, how much),");
        due(Plans.text(x, "fee 3 77"), 1);
        due(x.count(13), 77);
        text("fee 3", -105);
        text("fee 3 7 7", -108);
        says("30", "must, not, free (2: f, g):");
        x = Plans.calm();
        due(Plans.text(x, "must 0 1"), 1);
        due(x.mark(0, 1, 1), 1);
        due(x.mark(1, 0, 0), 0);
        due(Plans.text(x, "not 0 1"), 1);
        due(x.mark(0, 1, 2), 2);
        due(Plans.text(x, "free 0 1"), 1);
        due(x.mark(0, 1, 0), 0);
        for (String word : List.of("must", "not", "free")) {
            text(word + " 0", -102 - word.length());
            text(word + " 0 1 0", -105 - word.length());
        }
        says("30", "a WORD and just as many NUMBERS.");
        text("7", -100);
        text("7 base", -100);
        text("base;3", -104);
        text("kind base 3", -105);
        text("base 3;5", -107);
    }

    private static void faults() {
        says("30", "FAULT: the place of the first byte of the first TOKEN that can't stand there");
        text("base 3;  12", -109);
        text("base 3 ; fee 1 kind 1 2 3", -115);
        text("fly 0 1 2 ;", -110);
        // the first of several
        text("base x;y", -105);
        text("base 3 4;bass 1;fee 1 1000;?", -107);

        says("30", "(the text's size, if it ends too early),");
        text("", -100);
        text(" ", -101);
        text("\n \n", -103);
        text("fly", -103);
        text("fly  ", -105);
        text("fly 0 1 2", -109);
        text("fly 0 1 2 \n", -111);
        text("base 3;", -107);
        text("base 3; ", -108);
        text("base 5;base 5;base 5;base 5;base 5;base 5;base 5;base       ", -160);

        says("30", "also of a byte that begins none,");
        for (char c : new char[] {'?', 'A', 'Z', '-', 127, 128, 255}) {
            text("" + c, -100);
            text("base " + c, -105);
            text("base 3" + c, -106);
            text("base 3 " + c, -107);
            text("base 3;" + c, -107);
        }

        says("30", "a WORD that is none of these,");
        for (String word : List.of("a", "z", "bas", "basis", "fl", "flys", "kin", "kinds", "fe", "feed", "mus", "musty",
                "no", "nots", "fre", "freed", "sly", "mind", "case", "bee", "dust", "hot", "tree", "fry", "kino")) {
            text(word + " 0 1 2 3", -100);
            text("base 3; " + word, -108);
        }

        says("30", "a NUMBER that is too long.");
        text("base 0003", -105);
        text("base 3;fee 1 1000", -113);
        text("fly 0000 1 2 3", -104);
        text("base 12345678901234567890", -105);
        text("base 003", 1);
    }

    private static void done() {
        says("30", "Without FAULT they are done,");
        CrewPairings x = new CrewPairings();
        due(Plans.text(x, "base 6"), 1);
        due(x.count(5), 6);
        // with a FAULT none is done, also of those ahead of it
        due(Plans.text(x, "base 3;fee 0 50;base"), -120);
        due(x.count(5), 6);
        due(x.count(10), 10);

        says("30", "one behind the other, as if called so;");
        x = new CrewPairings();
        due(Plans.text(x, "fly 0 1 0 10;fly 1 0 15 25;must 0 1"), 3);
        due(x.count(1), 1);
        due(x.pairing(3, 0), 35);
        x = new CrewPairings();
        due(Plans.text(x, "must 0 1;fly 0 1 0 10;fly 1 0 15 25"), 2);
        due(x.count(1), 0);
        due(Plans.text(x, "base 5;base 6"), 2);
        due(x.count(5), 6);

        says("30", "those that would be refused aren't.");
        due(Plans.text(x, "base 16;fee 5 0;fee 1 10;base 3"), 1);
        due(x.count(5), 3);
        due(Plans.text(x, "fly 0 0 1 2;fly 4 0 1 2;fly 0 1 2 2;kind 4 0 0;must 0 0"), 0);
        due(Plans.text(x, "kind 0 6 0;kind 0 0 10;fly 0 1 0 300;not 0 2"), 0);
        due(x.count(0), 2);
        due(x.count(1), 0);
        x = Twins.made(Plans::full);
        due(Plans.text(x, "fly 0 1 1 2;free 0 1"), 1);
        due(x.count(0), 7);
    }

    private static void wrong(int want, long... sets) {
        CrewPairings x = Plans.six();
        Plans.row(x, 1, 0, sets);
        due(x.tells(1, 0), want);
        if (want != NONE) {
            due(x.tells(1, 1), NONE);
            due(x.tells(1, 2), NONE);
        }
    }

    private static void told() {
        says("31", "TOLD: a SHEET tells sets: WRONG: the first that isn't HAD,");
        wrong(1, 3, 15, 3);
        wrong(0, 15, 15, 3);
        wrong(2, 3, 12, 63);
        says("31", "or has a FLIGHT that one ahead has");
        wrong(1, 3, 2, 0);
        wrong(2, 1, 2, 3);
        wrong(2, 3, 12, 51);
        wrong(6, 1, 2, 4, 8, 16, 32, 32);
        says("31", "(numbers that are no sets aren't HAD);");
        for (long none : new long[] {0, -1, 64, 67, LOW, HIGH, (1L << 32) + 3, Long.MIN_VALUE + 3, Long.MAX_VALUE, NO}) {
            wrong(0, none);
            wrong(1, 3, none, 12);
        }
        says("31", "NONE;");
        wrong(NONE);
        wrong(NONE, 3);
        wrong(NONE, 12, 3, 48);
        wrong(NONE, 1, 2, 4, 8, 16, 32);
        says("31", "its TOTAL, if it is a COVER;");
        CrewPairings x = Plans.six();
        Plans.row(x, 0, 0, 48, 3, 12);
        due(x.tells(0, 1), 33 + 37 + 39);
        Plans.row(x, 0, 1, 48, 1, 2, 12);
        due(x.tells(0, 1), 33 + 57 + 57 + 39);
        Plans.row(x, 0, 0, 3, 12);
        due(x.tells(0, 1), NONE);
        due(x.tells(0, 2), NONE);
        Plans.row(x, 0, 0, 3, 12, 48, 1);
        due(x.tells(0, 1), NONE);
        x.sheet(0, 0, 0);
        due(x.tells(0, 1), NONE);
        due(x.tells(0, 2), NONE);
        says("31", "how many FLIGHTS are flown along in it");
        Plans.row(x, 0, 0, 48, 3, 12);
        due(x.tells(0, 2), 0);
        Plans.row(x, 0, 0, 48, 1, 2, 12);
        due(x.tells(0, 2), 2);
        says("31", "(one as often as it is).");
        // 2 is flown along with 0 and with 1, 1 with 2
        x = Plans.fan();
        Plans.row(x, 0, 0, 1, 2, 4);
        due(x.tells(0, 2), 3);
        x = Plans.plan(0, 1, 0, 10, 1, 0, 20, 30, 1, 0, 20, 31, 1, 0, 20, 32);
        Plans.row(x, 0, 0, 1, 2, 4, 8);
        due(x.tells(0, 2), 1 + 1 + 1 + 1);
        Plans.row(x, 0, 0, 3, 4, 8);
        due(x.tells(0, 2), 2);
    }

    private static void imageAndSheets() {
        says("34, 35", "AN IMAGE keeps all");
        CrewPairings x = Twins.made(Plans::busy);
        x.image();
        x.drop();
        x.shift(0, 1, 2);
        x.kind(3, 0, 0);
        x.kind(0, 2, 2);
        x.base(9);
        for (int fee = 0; fee < 5; fee++) {
            x.fee(fee, 9);
        }
        x.mark(1, 4, 0);
        x.mark(0, 1, 1);
        due(x.back(), 6);
        CrewPairings y = Twins.made(Plans::busy);
        y.image();
        Twins.alike(x, y);
        says("34, 35", "but SHEETS, THE TAPE.");
        x = Twins.made(Plans::busy);
        x.put(0, 0, 77);
        x.sheet(1, 0, 3);
        x.sheet(2, 1, 2);
        x.sheet(3, -1, 0);
        Plans.feed(x, ";base 7");
        y = Twins.made(Plans::busy);
        due(x.back() + y.back(), 6);
        due(x.item(0, 0), 77);
        due(x.item(1, 0), 0);
        due(x.item(2, 1), 0);
        due(x.item(3, 0), NO);
        due(x.count(2) - y.count(2), 7);
        due(x.text(), 3);

        says("37, 38, 39", "SHEETS 0 .. 3 are rows of numbers,");
        x = new CrewPairings();
        for (int sheet = 0; sheet < 4; sheet++) {
            due(x.sheet(sheet, sheet % 2, 2), 1);
            due(x.put(sheet, 1, 8 + sheet), 1);
        }
        for (int sheet = 0; sheet < 4; sheet++) {
            due(x.item(sheet, 1), 8 + sheet);
        }
        due(x.sheet(4, 0, 2), BAD);
        due(x.sheet(-1, 0, 2), BAD);
        due(x.put(4, 0, 2), BAD);
        says("37, 38, 39", "or missing (as all are at first):");
        for (int sheet = 0; sheet < 4; sheet++) {
            due(new CrewPairings().put(sheet, 0, 1), MISSING);
            due(new CrewPairings().item(sheet, 0), NO);
            due(x.sheet(sheet, -1, 0), 1);
            due(x.put(sheet, 0, 1), MISSING);
            due(x.item(sheet, 1), NO);
        }
        says("38, 39", "of sort 0 longs, 1 ints.");
        x.sheet(0, 0, 1);
        x.sheet(1, 1, 1);
        x.put(0, 0, Long.MAX_VALUE - 5);
        x.put(1, 0, Long.MAX_VALUE - 5);
        due(x.item(0, 0), Long.MAX_VALUE - 5);
        due(x.item(1, 0), -6);
    }

    private static void inDoubt() {
        says("23", "In doubt. A LABEL's COST has, at each FLIGHT, AWAY so far in it.");
        // 2 -> 3 never comes home; at flight 2 AWAY is 30 by 0, 28 by 1
        CrewPairings x = Plans.plan(0, 1, 0, 10, 0, 1, 2, 10, 1, 2, 20, 30);
        label(x, 3, 1, 0, 0, 0);
        label(x, 3, 1, 2, 0, 0);
        label(x, 4, 0, 3, 0, 0);
        x.fee(1, 9);
        label(x, 3, 1, 18, 0, 0);
        label(x, 4, 0, 19, 0, 0);
        x.fee(1, 0);
        label(x, 3, 1, 0, 0, 0);
        label(x, 4, 0, 1, 0, 0);

        says("23", "\"No more\" for DROPPED is asked of those KEPT then.");
        // three at flight 3, each better than those ahead, or each worse
        x = Plans.plan(0, 1, 0, 10, 0, 1, 1, 10, 0, 1, 2, 10, 1, 2, 20, 30);
        label(x, 4, 2, 0, 0, 0, 0);
        x = Plans.plan(0, 1, 0, 10, 0, 1, 0, 10, 0, 1, 0, 10, 1, 2, 20, 30);
        label(x, 4, 2, 9, 5, 1, 0);
        label(x, 4, 2, 1, 5, 9, 0);
        label(x, 4, 2, 1, 9, 5, 0);
        label(x, 4, 2, 5, 5, 5, 0);
        // the second outdoes the first, and neither it nor the third each other
        x = Plans.plan(0, 1, 0, 10, 0, 1, 1, 10, 0, 1, 2, 10, 1, 2, 20, 30);
        label(x, 5, 1, 0, 9, 0, 0);

        says("22", "proves() takes a SHEET of any sort.");
        for (int sort = 0; sort < 2; sort++) {
            x = Plans.calm();
            Plans.row(x, 0, sort, 35, 0);
            due(x.proves(0, 1, 0), NONE);
            due(x.proves(0, 1, 1), 1);
            Plans.row(x, 0, sort, 36, 0);
            due(x.proves(0, 1, 0), 3);
        }

        says("31", "WRONG tells the place of the first.");
        wrong(0, 5, 3, 3);
        wrong(1, 12, 5, 3);
        wrong(2, 12, 3, 5);
        wrong(3, 12, 3, 48, 48);
    }

    /** In the program these calls, and no others, stand behind the line that tells so. */
    private static void ahead(String line, String calls, String source) {
        Matcher part = Pattern.compile("(?s)// ---- " + line + "\\n(.*?)\\n    // ----").matcher(source);
        due(part.find() ? 1 : 0, 1);
        StringBuilder found = new StringBuilder();
        Matcher call = Pattern.compile("public (?:int|long) (\\w+)\\(").matcher(part.group(1));
        while (call.find()) {
            found.append('`').append(call.group(1)).append("`, ");
        }
        due(found.toString().equals(calls + ", ") ? 1 : 0, 1);
    }

    private static void interfaces() {
        String source;
        try {
            source = Files.readString(Path.of("src/main/java/CrewPairings.java"));
        } catch (IOException e) {
            throw new UncheckedIOException(e);
        }
        String[][] parts = {
            {"flights, airports", "`fly`, `drop`, `of`, `shift`, `kind`, `told`, `taken`, `base`, `fee`, `mark`"},
            {"pairings", "`follows`, `pairing`, `pairings`, `had`"},
            {"covers, prices", "`best`, `bestOf`, `bound`, `price`, `branch`, `tree`, `proves`"},
            {"labels", "`labels`, `way`"},
            {"who is late", "`late`, `worst`, `drawn`, `chance`"},
            {"texts", "`feed`, `text`"},
            {"what was told", "`tells`, `film`, `load`, `image`, `back`, `count`"},
            {"the host", "`sheet`, `put`, `item`, `copy`"}};
        for (String[] part : parts) {
            Doc.says("interface", "Ahead of the calls " + part[1] + " the interface says: ---- " + part[0] + ".");
            ahead(part[0], part[1], source);
        }
    }
}
