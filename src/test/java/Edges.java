import java.math.BigInteger;

/** The sentences of the document that name a boundary case, term by term and promise by promise. */
public final class Edges extends Checks {
    private static final String HEAD = "field kinds 2 law 1 fades 1 odds 5;";
    /** Each hates what the one to his left grows, but for the last one: P4 is bare, P5 grows 0 by P0. */
    private static final String SIX = "field kinds 5 law 2 fades 0 odds 10;person hates 0 9;person hates 1 9;"
        + "person hates 2 9;person hates 3 9;person hates 4 9;person loves 4 9;";

    public static void main(String[] args) {
        headNumbers();
        tasteNumbers();
        tellings();
        people();
        blanksAndTokens();
        everyByte();
        everySign();
        everyLetter();
        everyEnd();
        cutEnds();
        firstFault();
        tapeFull();
        tapeCut();
        fieldsFollow();
        faultsAsked();
        lastSeason();
        nineAtMost();
        noughtAtMost();
        fadesAndEats();
        hidStaysHid();
        ownHates();
        lastOne();
        ties();
        nobodyAndNone();
        ordersOfAll();
        whoMustGo();
        hidingGames();
        worthAtEnds();
        spoonRows();
        spoonNumbers();
        asked();
        judgesAtEnds();
        chancesAtEnds();
        drawsAtEnds();
        luckAtEnds();
        fortyActs();
        actsOfEnds();
        nothingToUndo();
        rates();
        counts();
        imagesAtEnds();
        imagesAreCopies();
        rowsAtEnds();
        cuts();
        writes();
        pastes();
        refusedFirst();
        tell("Edges");
    }

    private static void sound(String text, int lines) {
        SpiteField x = new SpiteField();
        tape(x, text);
        due("field " + text, x.field(), lines);
        due("fault(0) of " + text, x.fault(0), 0);
        due("fault(1) of " + text, x.fault(1), NONE);
        due("lines of " + text, x.count(6), lines);
    }

    // ---- I: the text ----

    private static void headNumbers() {
        promise = "I, 4: kinds 1 .. 5, law 0 .. 3, fades 0 .. 3, odds 0 .. 10";
        int[] least = {1, 0, 0, 0};
        int[] most = {5, 3, 3, 10};
        int[] places = {12, 18, 26, 33};
        for (int i = 0; i < 4; i++) {
            for (int n = 0; n <= 12; n++) {
                int[] told = {2, 1, 1, 5};
                told[i] = n;
                String text = "field kinds " + told[0] + " law " + told[1] + " fades " + told[2] + " odds " + told[3] + ";";
                if (n >= least[i] && n <= most[i]) {
                    sound(text, 1);
                    due("count " + i, on(text).count(i), n);
                } else {
                    fault(text, 2, places[i]);
                }
            }
        }
        for (String great : new String[] {"256", "4294967298", "18446744073709551618", "1" + "0".repeat(300)}) {
            fault("field kinds " + great + " law 1 fades 1 odds 5;", 2, 12);
            fault("field kinds 2 law " + great + " fades 1 odds 5;", 2, 18);
            fault("field kinds 2 law 1 fades " + great + " odds 5;", 2, 26);
            fault("field kinds 2 law 1 fades 1 odds " + great + ";", 2, 33);
        }
        sound("field kinds " + "0".repeat(300) + "2 law 0003 fades 00 odds 0010;", 1);
        fault("field kinds " + "0".repeat(300) + " law 0 fades 0 odds 0;", 2, 12);
    }

    private static void tasteNumbers() {
        promise = "I, 4: a KIND 0 .. kinds less 1, 1 .. 9 (hates: below 0)";
        for (String verb : new String[] {"loves", "hates"}) {
            int sign = verb.equals("loves") ? 1 : -1;
            for (int kinds = 1; kinds <= 5; kinds++) {
                String head = "field kinds " + kinds + " law 1 fades 1 odds 5;";
                String last = head + "person " + verb + " " + (kinds - 1) + " 3;";
                due("the last kind: " + last, on(last).taste(0, kinds - 1), 3 * sign);
                fault(head + "person " + verb + " " + kinds + " 3;", 2, 48);
            }
            fault(HEAD + "person " + verb + " 4294967296 3;", 2, 48);
            for (int n = 0; n <= 10; n++) {
                String text = HEAD + "person " + verb + " 0 " + n + ";";
                if (n == 0 || n == 10) {
                    fault(text, 2, 50);
                } else {
                    sound(text, 2);
                    due("taste: " + text, on(text).taste(0, 0), n * sign);
                }
            }
            fault(HEAD + "person " + verb + " 0 4294967297;", 2, 50);
        }
        fault(HEAD + "person hates 1 1 loves 1 0;", 2, 60);
    }

    private static void tellings() {
        promise = "I, 6: the last told of a KIND is it; 0 if none is told";
        SpiteField x = on(HEAD + "person loves 0 3 hates 0 4 loves 0 5;person hates 1 9 loves 1 1 hates 1 2;person;");
        due("the third", x.taste(0, 0), 5);
        due("none told", x.taste(0, 1), 0);
        due("none told", x.taste(1, 0), 0);
        due("the third", x.taste(1, 1), -2);
        due("nothing told", x.taste(2, 0), 0);
        due("nothing told", x.taste(2, 1), 0);
        promise = "I, 4: field is the first LINE and no other";
        fault("person;", 1, 0);
        fault(HEAD + HEAD, 1, 35);
        fault(HEAD + "person;" + HEAD, 1, 42);
        fault("person;" + HEAD, 1, 0);
        sound(HEAD, 1);
    }

    private static void people() {
        promise = "I, 4: PERSONS 0 .. 5; a 7th person, at his word";
        StringBuilder text = new StringBuilder(HEAD);
        for (int n = 1; n <= 6; n++) {
            text.append("person hates 0 ").append(n).append(';');
            sound(text.toString(), n + 1);
            SpiteField x = on(text.toString());
            due("persons", x.count(4), n);
            for (int p = 0; p < n; p++) {
                due("as they stand", x.taste(p, 0), -1 - p);
                due("PERSON i is on PLOT i", x.on(p, 0), p);
                due("PLOT i has PERSON i", x.plot(p, 12), p);
            }
            due("no more", x.taste(n, 0), -100);
        }
        int six = text.length();
        fault(text + "person", 3, six);
        fault(text + "  person;", 3, six + 2);
        fault(text + "person hates 9 99;", 3, six);
        fault(text + "persons;", 1, six);
        fault(text + "perso", 1, six);
        fault(text + ";", 1, six);
        fault(text + "7", 1, six);
    }

    private static void blanksAndTokens() {
        promise = "I, 4: TOKENS, blanks aside, the longest";
        sound("", 0);
        sound(" ", 0);
        sound("\n", 0);
        sound(" \n".repeat(400), 0);
        sound("\n \n" + HEAD + "  \n\n  person  hates\n\n0\n7 ;  \n", 2);
        sound("field kinds2law1fades1odds5;person hates0 1loves1 9;", 2);
        due("a word ends at a number", on("field kinds2law1fades1odds5;person hates0 1loves1 9;").taste(0, 1), 9);
        fault("fieldkinds 2", 1, 0);
        fault("fiel d kinds 2", 1, 0);
        fault("field kindslaw", 1, 6);
        fault(HEAD + "personhates 0 1;", 1, 35);
        fault(HEAD + "person loveshates 0 1;", 1, 42);
        fault(HEAD + "person hates 01;", 1, 50);
        fault(HEAD + "person hates 0 11;", 2, 50);
        fault(HEAD + "person hates 10 1;", 2, 48);
        fault(HEAD + "person hates 0 1;;", 1, 52);
        due("leading noughts", on(HEAD + "person hates 001 009;").taste(0, 1), -9);
    }

    /** Each byte as a text, and between two TOKENS. */
    private static void everyByte() {
        promise = "I, 4, 5: 1 a TOKEN that is none";
        for (int b = 0; b < 256; b++) {
            boolean blank = b == 32 || b == 10;
            String text = String.valueOf((char) b);
            if (blank) {
                sound(text, 0);
                sound("field kinds 3" + text + "law 0 fades 0 odds 0;", 1);
                sound(HEAD + text, 1);
            } else {
                fault(text, 1, 0);
                fault(" \n" + text, 1, 2);
                fault(HEAD + text, 1, 35);
                boolean digit = b >= '0' && b <= '9';
                fault("field kinds 3" + text + "law 0 fades 0 odds 0;", digit ? 2 : 1, digit ? 12 : 13);
            }
        }
    }

    /** Each byte where a ; is due: behind a number, behind a word. */
    private static void everySign() {
        promise = "I, 4, 5: the sign ;";
        String head = HEAD.substring(0, 34);
        for (int b = 0; b < 256; b++) {
            String sign = String.valueOf((char) b);
            boolean blank = b == 32 || b == 10;
            boolean digit = b >= '0' && b <= '9';
            boolean letter = b >= 'a' && b <= 'z';
            if (b == ';') {
                sound(head + sign, 1);
                sound(HEAD + "person" + sign, 2);
            } else {
                fault(head + sign, digit ? 2 : 1, digit ? 33 : blank ? 35 : 34);
                fault(HEAD + "person" + sign, 1, letter ? 35 : blank ? 42 : 41);
                fault(HEAD + "person hates 0 1" + sign, digit ? 2 : 1, digit ? 50 : blank ? 52 : 51);
            }
        }
    }

    /** Each letter of each word changed, left out, or put twice. */
    private static void everyLetter() {
        promise = "I, 4, 5: 1 a TOKEN that can't stand there";
        String text = "field kinds 2 law 1 fades 1 odds 5;person loves 0 1 hates 1 1;";
        for (int i = 0; i < text.length(); i++) {
            if (Character.isLetter(text.charAt(i))) {
                int at = i;
                while (at > 0 && Character.isLetter(text.charAt(at - 1))) {
                    at--;
                }
                String left = text.substring(0, i);
                String right = text.substring(i + 1);
                fault(left + "q" + right, 1, at);
                fault(left + text.charAt(i) + text.charAt(i) + right, 1, at);
                fault(left + right, 1, at);
            }
        }
    }

    /** What stood behind the end is not read. */
    private static void cutEnds() {
        promise = "3, 5: its first n bytes alone";
        String[] texts = {HEAD + "personx", "field kinds 55", "field kinds 2 law 1 fades 1 odds 10", HEAD + "person hates 11"};
        for (String text : texts) {
            SpiteField x = new SpiteField();
            tape(x, text);
            int n = text.length() - 1;
            due("end", x.end(n), n);
            due("cut " + text, x.field(), -4);
            due("fault of " + text, x.fault(0), 1);
            due("the end " + text, x.fault(1), n);
        }
        for (String last : new String[] {"field kinds 2 law", "field kinds 2 law 1", HEAD + "person hates 0 1", HEAD + "person"}) {
            fault(" ".repeat(800 - last.length()) + last, 1, 800);
        }
        sound(" ".repeat(800 - HEAD.length()) + HEAD, 1);
        sound(HEAD + "person;".repeat(6) + "\n".repeat(800 - HEAD.length() - 42), 7);
        fault(" ".repeat(799) + "$", 1, 799);
        fault(" ".repeat(799) + "7", 1, 799);
        fault(" ".repeat(799) + "f", 1, 799);
    }

    /** A sound text cut at each length: a cut word is at its first byte, else the end is the place. */
    private static void everyEnd() {
        promise = "I, 4, 5: the end's place";
        String text = " field kinds 5 law 3 fades 3 odds 10 ; person loves 4 9 hates 0 1;person\n;";
        for (int n = 0; n <= text.length(); n++) {
            String part = text.substring(0, n);
            String told = part.strip();
            int wordAt = n;
            while (wordAt > 0 && Character.isLetter(text.charAt(wordAt - 1))) {
                wordAt--;
            }
            boolean inWord = wordAt < n && n < text.length() && Character.isLetter(text.charAt(n));
            if (told.isEmpty() || told.endsWith(";")) {
                sound(part, (int) part.chars().filter(c -> c == ';').count());
            } else {
                fault(part, 1, inWord ? wordAt : n);
            }
        }
        fault("field kinds 5   \n ", 1, 18);
        fault(HEAD + "person" + " ".repeat(759), 1, 800);
    }

    private static void firstFault() {
        promise = "I, 5: the first by its place, of one place the least";
        fault("field kinds 6 $", 2, 12);
        fault("field kinds $ 6", 1, 12);
        fault("field kinds 6 law 9 fades 9", 2, 12);
        fault("field kinds 2 law 9 $", 2, 18);
        fault("field 99 kinds", 1, 6);
        fault("99", 1, 0);
        fault(HEAD + "person 99;", 1, 42);
        fault(HEAD + "99", 1, 35);
        fault(HEAD + "person hates 0 1 99;", 1, 52);
        fault(HEAD + "person hates 9 99 $", 2, 48);
        String six = HEAD + "person;".repeat(6);
        fault(six + "$ person", 1, 77);
        fault(six + "person $", 3, 77);
        fault(HEAD + "person;".repeat(5) + "person hates 9 1;person;", 2, 35 + 35 + 13);
    }

    // ---- 2 to 5: the TAPE, the FIELD, its FAULT ----

    private static void tapeFull() {
        promise = "2: NONE, and none come, if it would have more than 800";
        SpiteField x = new SpiteField();
        tape(x, HEAD + "person hates 0 7;");
        for (int has = 52; has + 20 <= 800; has += 20) {
            due("feed", x.feed(0x20202020, 0x20202020, 0x20202020, 0x20202020, 0x20202020), has + 20);
        }
        due("bytes", x.count(7), 792);
        due("refused", x.feed(0x24242424, 0x24242424, 0x24242424, 0x24242424, 0x24242424), NONE);
        due("refused again", x.feed(0x24242424, 0x24242424, 0x24242424, 0x24242424, 0x24242424), NONE);
        due("bytes", x.count(7), 792);
        due("none have come", x.field(), 2);
        due("it is read", x.taste(0, 0), -7);
        SpiteField y = new SpiteField();
        tape(y, " ".repeat(780 - 34) + HEAD.substring(0, 34));
        due("780", y.count(7), 780);
        due("to 800", y.feed(0x3b706572, 0x736f6e20, 0x68617465, 0x73203020, 0x3720203b), 800);
        due("full", y.feed(0, 0, 0, 0, 0), NONE);
        due("800 bytes are read", y.field(), 2);
        due("the last ones, too", y.taste(0, 0), -7);
        due("empty then", y.feed(0, 0, 0, 0, 0), 20);
        for (int has = 781; has < 800; has++) {
            SpiteField z = new SpiteField();
            tape(z, " ".repeat(has));
            due("from " + has, z.feed(0, 0, 0, 0, 0), NONE);
            due("stays " + has, z.count(7), has);
        }
        promise = "2: four of each number, the highest first";
        SpiteField w = new SpiteField();
        w.feed(0x0a0a0a0a, 0x0a0a0a0a, 0x20202020, 0x20202020, 0x2020ff80);
        due("bytes above 127", w.field(), -4);
        due("the first of them", w.fault(1), 18);
    }

    private static void tapeCut() {
        promise = "3: NONE, and nothing happens, if it has not so many, or n is below 0";
        SpiteField x = new SpiteField();
        due("0 of none", x.end(0), 0);
        due("1 of none", x.end(1), NONE);
        due("-1 of none", x.end(-1), NONE);
        tape(x, HEAD + "person;$");
        for (int n : new int[] {-1, Integer.MIN_VALUE, 44, 800, 801, Integer.MAX_VALUE}) {
            due("end " + n, x.end(n), NONE);
            due("nothing happens " + n, x.count(7), 43);
        }
        due("all it has", x.end(43), 43);
        due("one less", x.end(42), 42);
        due("not so many any more", x.end(43), NONE);
        due("its first bytes alone", x.field(), 2);
        due("it is empty", x.end(1), NONE);
        due("0", x.end(0), 0);
        tape(x, HEAD + "$$$");
        x.end(35);
        tape(x, "person;");
        due("fed behind the cut", x.field(), 2);
        due("no byte of the old ones", x.fault(0), 0);
        tape(x, HEAD);
        x.end(0);
        due("cut to nothing", x.field(), 0);
        due("no field", x.count(0), 0);
    }

    private static void fieldsFollow() {
        promise = "4: in place of another, nothing done; 0: there is none then; -4: all stays";
        SpiteField x = on(SIX);
        x.swap(0, 5, 0);
        x.hide(0, 0, 0, 1);
        x.image(1);
        row(x, 3, 5, NONE);
        tape(x, HEAD + "person loves 0 9");
        due("a fault", x.field(), -4);
        due("the tape is empty", x.count(7), 0);
        due("kinds stay", x.count(0), 5);
        due("persons stay", x.count(4), 6);
        due("lines stay", x.count(6), 7);
        due("acts stay", x.count(5), 2);
        due("plots stay", x.on(0, 0), 5);
        due("hid hates stay", x.open(0, 0), 0);
        due("tastes stay", x.taste(0, 0), -9);
        due("slots stay", x.spoons(3), 1);
        tape(x, HEAD + "person loves 0 9;");
        due("another", x.field(), 2);
        due("nothing done", x.count(5), 0);
        due("nothing to undo", x.undo(), -5);
        due("its kinds", x.count(0), 2);
        due("its person", x.count(4), 1);
        due("no second one", x.taste(1, 0), -100);
        due("hid no more", x.hide(0, 0, 0, 0), 0);
        due("none", x.field(), 0);
        for (int what = 0; what < 8; what++) {
            due("nothing is left of " + what, x.count(what), 0);
        }
        due("slots stay", x.count(8), 1);
        due("none again", x.field(), 0);
        due("images stay", x.back(1), 0);
        due("as the image has it", x.count(5), 2);
    }

    private static void faultsAsked() {
        promise = "5: of the latest field(); NONE for another what, and ahead of any (what 1)";
        SpiteField x = new SpiteField();
        int[] others = {-1, 2, 3, Integer.MIN_VALUE, Integer.MAX_VALUE};
        due("ahead of any, 0", x.fault(0), 0);
        due("ahead of any, 1", x.fault(1), NONE);
        tape(x, "person");
        due("not read yet", x.fault(1), NONE);
        x.field();
        due("fault", x.fault(0), 1);
        due("place 0", x.fault(1), 0);
        for (int what : others) {
            due("another what " + what, x.fault(what), NONE);
        }
        tape(x, HEAD);
        x.end(3);
        x.image(0);
        x.back(0);
        due("the latest field()'s still", x.fault(0), 1);
        x.end(0);
        due("an empty text has none", x.field(), 0);
        due("without", x.fault(0), 0);
        due("without a place", x.fault(1), NONE);
        tape(x, HEAD + "person;".repeat(7));
        x.field();
        due("the third", x.fault(0), 3);
        due("its place", x.fault(1), 77);
        tape(x, "field kinds 6");
        x.field();
        due("the second", x.fault(0), 2);
        due("its place", x.fault(1), 12);
    }

    // ---- II, III: SEASONS, TASTES, hates ----

    private static void lastSeason() {
        promise = "III, 7 to 35: SEASONS 0 .. 12, the last PERSON, the last KIND";
        SpiteField x = on(SIX);
        // What is grown is liked by 1 more each SEASON, from 0 to 9 in SEASON 9.
        for (int s = 0; s < 13; s++) {
            int liked = Math.min(s, 9);
            due("has 0 in " + s, x.has(0, s), liked - 9);
            due("has 4 in " + s, x.has(4, s), -9);
            due("has 5 in " + s, x.has(5, s), liked);
            due("all in " + s, x.all(s), 4 * (liked - 9) - 9 + liked);
        }
        due("life 0", x.life(0), -45);
        due("life 4", x.life(4), -117);
        due("life 5", x.life(5), 72);
        due("likes", x.likes(5, 4, 12), 9);
        due("likes", x.likes(3, 4, 12), 9);
        due("hates", x.hates(4, 12), 16);
        due("open", x.open(4, 12), 16);
        due("haters", x.haters(4, 12), 16);
        due("on", x.on(5, 12), 5);
        due("plot", x.plot(5, 12), 5);
        due("decides", x.decides(5, 12), 0);
        due("decides", x.decides(4, 12), 5);
        due("may", x.may(5, 12), 1);
        due("may", x.may(4, 12), 0);
        due("grows", x.grows(3, 12), 4);
        due("bare plot", x.grows(4, 12), NONE);
        due("bare", x.bare(12), 16);
        due("growers", x.growers(4, 12), 8);
        due("kinds", x.kinds(12), 5);
        due("happiest", x.happiest(12), 5);
        due("fails in 0", x.fails(), 0);
        due("no peace", x.peace(), NONE);
        due("joy", x.joy(5, 12), 9);
        due("joy, bare", x.joy(4, 12), 0);
        due("smell", x.smell(4, 12), 9);
        due("smell of a bare plot", x.smell(5, 12), 0);
        due("foe", x.foe(12), 0);
        due("cools in none", x.cools(4, 4), NONE);
        due("eats in all", x.eats(3, 4), 13);
        due("eats in none", x.eats(4, 4), 0);
        due("lasts to the end", x.lasts(4), 12);
        due("lean", x.lean(), 0);
        due("bare for ever", x.change(4), NONE);
        due("uncle", x.uncle(12), 0);
        due("saints", x.saints(12), 32);
        due("loves", x.loves(5, 12), 17);
        courseAtEnds();
    }

    private static void courseAtEnds() {
        promise = "23, 24, 28, 30, 31, 32: the first SEASON, the last one, none";
        SpiteField x = on("field kinds 1 law 1 fades 0 odds 0;person loves 0 9;person hates 0 1;");
        // P1 grows his hate and likes it from SEASON 1 on: then P0 is bare.
        due("cools in 1", x.cools(1, 0), 1);
        due("peace in 1", x.peace(), 1);
        due("fails in 1", x.fails(), 1);
        due("change in 1", x.change(0), 1);
        due("lean", x.lean(), 1);
        SpiteField y = on("field kinds 2 law 0 fades 0 odds 0;person loves 0 9 loves 1 1;person hates 0 1 hates 1 5;");
        y.hide(1, 0, 12, 1);
        due("change in 12", y.change(0), 12);
        due("lasts to 11", y.lasts(0), 11);
        due("lasts to 12", y.lasts(1), 12);
        due("lean in 12", y.lean(), 12);
        SpiteField z = on("field kinds 2 law 1 fades 0 odds 0;person;person hates 1 9;");
        z.hide(1, 1, 12, 1);
        due("fails in 12", z.fails(), 12);
        due("change in 12, bare", z.change(0), 12);
        SpiteField w = on("field kinds 2 law 1 fades 1 odds 0;person;person hates 1 9;");
        due("cools in 9", w.cools(1, 1), 9);
        due("peace in 9", w.peace(), 9);
        due("in 8 it is 1", w.likes(1, 1, 8), -1);
        SpiteField never = on("field kinds 2 law 1 fades 0 odds 0;person;person hates 1 1;");
        due("cools in none", never.cools(1, 1), NONE);
        due("peace in none", never.peace(), NONE);
        due("fails in none", never.fails(), NONE);
        due("a KIND not hated", never.cools(1, 0), NONE);
        due("lasts in none", on("field kinds 2 law 1 fades 0 odds 0;person loves 1 1;").lasts(0), NONE);
        due("foe of none", on(HEAD + "person;").foe(0), NONE);
        due("peace in 0", on(HEAD + "person loves 0 1;").peace(), 0);
        due("peace of six in 0", on(HEAD + "person loves 0 1;".repeat(6)).peace(), 0);
        due("the first one alone hates", on("field kinds 1 law 0 fades 1 odds 0;person hates 0 3;person;").peace(), 3);
        due("the last one alone hates", on("field kinds 1 law 0 fades 1 odds 0;" + "person;".repeat(5)
            + "person hates 0 3;").peace(), 3);
    }

    private static void nineAtMost() {
        promise = "III, 7: 1 greater (9 at most)";
        for (int told = 7; told <= 9; told++) {
            SpiteField x = on("field kinds 1 law 1 fades 3 odds 0;person loves 0 " + told + ";");
            for (int s = 0; s < 13; s++) {
                due("from " + told + " in " + s, x.likes(0, 0, s), Math.min(9, told + s));
                due("has from " + told + " in " + s, x.has(0, s), Math.min(9, told + s));
            }
            due("as told", x.taste(0, 0), told);
        }
    }

    private static void noughtAtMost() {
        promise = "III, 7: fades greater (0 at most)";
        for (int fades = 0; fades <= 3; fades++) {
            for (int size = 1; size <= 9; size++) {
                SpiteField x = on("field kinds 1 law 0 fades " + fades + " odds 0;person hates 0 " + size + ";");
                for (int s = 0; s < 13; s++) {
                    due(size + " by " + fades + " in " + s, x.likes(0, 0, s), Math.min(0, s * fades - size));
                }
                int cool = fades == 0 ? NONE : (size + fades - 1) / fades;
                due("cools " + size + " by " + fades, x.cools(0, 0), cool);
            }
        }
    }

    private static void fadesAndEats() {
        promise = "III, 7: what he GREW is 1 greater; then each TASTE below 0 is fades greater";
        for (int fades = 0; fades <= 3; fades++) {
            SpiteField one = on("field kinds 1 law 1 fades " + fades + " odds 0;person hates 0 1;");
            due("1 eaten: 0, none fades beyond", one.likes(0, 0, 1), 0);
            due("then it is loved", one.likes(0, 0, 2), 1);
            SpiteField two = on("field kinds 1 law 1 fades " + fades + " odds 0;person hates 0 2;");
            due("2 eaten by " + fades, two.likes(0, 0, 1), fades == 0 ? -1 : 0);
            SpiteField nine = on("field kinds 1 law 1 fades " + fades + " odds 0;person hates 0 9;");
            due("9 eaten by " + fades, nine.likes(0, 0, 1), -8 + fades);
        }
        SpiteField x = on("field kinds 2 law 1 fades 3 odds 0;person loves 1 4;");
        due("above 0 nothing fades", x.likes(0, 1, 1), 5);
        due("0 does not fade", x.likes(0, 0, 12), 0);
    }

    private static void hidStaysHid() {
        promise = "II: below 0 or not, what is hid stays hid";
        SpiteField x = on("field kinds 2 law 0 fades 0 odds 0;person loves 0 9;person loves 0 3;");
        x.hide(1, 0, 0, 1);
        // Hated openly he would let P0 grow it (9), and smell it (3); hid he does not.
        due("hid ahead of the hate", x.worth(1, 0, -3), 0);
        due("hid ahead of the hate", x.learn(1), NONE);
        x.undo();
        due("open", x.worth(1, 0, -3), 6);
        due("open", x.learn(1), 0);
        promise = "II, 8, 9: openly, if he does not hide it";
        SpiteField y = on(HEAD + "person;person hates 0 9;");
        y.hide(1, 0, 4, 1);
        y.hide(1, 0, 5, 0);
        due("open in 3", y.open(1, 3), 1);
        due("hid in 4", y.open(1, 4), 0);
        due("hates in 4", y.hates(1, 4), 1);
        due("open in 5", y.open(1, 5), 1);
        due("faded by 9", y.open(1, 9), 0);
        due("hid does not stop fading", y.hates(1, 9), 0);
        due("nobody decides by it", y.grows(0, 4), NONE);
        due("the law's one needs nobody", y.grows(1, 4), 1);
    }

    private static void ownHates() {
        promise = "II, 15: also if it is below 0; the least of several";
        SpiteField x = on("field kinds 5 law 0 fades 0 odds 0;person hates 0 9 hates 1 9 hates 2 9 hates 3 9 hates 4 9;"
            + "person hates 0 1 hates 1 1 hates 2 1 hates 3 1 hates 4 1;");
        due("the least of five", x.grows(0, 0), 0);
        due("has 9 less", x.has(0, 0), -9);
        due("may grow all", x.may(0, 0), 31);
        x.hide(1, 0, 0, 1);
        due("the least of four", x.grows(0, 0), 1);
        for (int k = 1; k < 4; k++) {
            x.hide(1, k, 0, 1);
        }
        due("the last one", x.grows(0, 0), 4);
        x.hide(1, 4, 0, 1);
        due("bare", x.grows(0, 0), NONE);
        due("bare has 0", x.has(0, 0), 0);
        due("bare has no joy", x.joy(0, 0), 0);
        due("nothing of a bare plot smells", x.smell(1, 0), 0);
        promise = "III, 19: hid hates, too";
        SpiteField y = on("field kinds 2 law 0 fades 0 odds 0;person loves 1 1;person hates 0 9 hates 1 1;");
        y.hide(1, 0, 0, 1);
        due("only what is grown", y.has(1, 0), -1);
        SpiteField z = on("field kinds 1 law 3 fades 0 odds 0;person;person hates 0 4;person;person hates 0 2;");
        // Row 0 1 2 3; P2 DECIDES for P1 and, by law, for P3: neither grows anything.
        due("bare by the left one", z.grows(3, 0), NONE);
        z.swap(1, 2, 0);
        // Row 0 2 1 3: P1 DECIDES for P2 and for P3, both GROW 0.
        due("of two plots", z.smell(1, 0), 8);
        due("and has his own besides", z.has(1, 0), -8 - 4);
        z.hide(1, 0, 0, 1);
        due("hid: neither grows", z.smell(1, 0), 0);
    }

    private static void lastOne() {
        promise = "II, 13 to 15: by LAW, for one, two, three";
        // Who DECIDES for the last one of 1, 2, 3 in a row of numbers.
        int[][] wanted = {{NONE, NONE, NONE}, {NONE, NONE, NONE}, {0, 0, 0}, {NONE, 0, 1}};
        for (int law = 0; law < 4; law++) {
            for (int n = 1; n <= 3; n++) {
                SpiteField x = on("field kinds 2 law " + law + " fades 0 odds 0;" + "person hates 1 2;".repeat(n));
                String who = " by law " + law + " of " + n;
                int decides = wanted[law][n - 1];
                int may = decides != NONE ? 2 : law == 1 ? 3 : 0;
                due("decides" + who, x.decides(n - 1, 0), decides);
                due("may" + who, x.may(n - 1, 0), may);
                due("grows" + who, x.grows(n - 1, 0), may == 3 ? 0 : may == 2 ? 1 : NONE);
                due("has first" + who, x.has(0, 0), firstHas(law, n));
            }
        }
    }

    /** All but the last one GROW their own hate (2 less), and are smelt by the one to their right. */
    private static int firstHas(int law, int n) {
        if (n == 1) {
            return law == 2 ? -2 : 0;
        }
        boolean smellsLast = law == 2 || law == 3 && n == 2;
        return smellsLast ? -4 : -2;
    }

    private static void ties() {
        SpiteField x = on("field kinds 3 law 0 fades 0 odds 0;" + "person loves 0 1 hates 1 2 hates 2 2;".repeat(4));
        // All but the last GROW 1 (-2), all but the first smell it (-2).
        promise = "22: the first of several";
        due("happiest of even ones", x.happiest(0), 0);
        due("the last is as happy", x.has(3, 0), x.has(0, 0));
        promise = "27: the least of several";
        due("foe", x.foe(0), 1);
        promise = "33: the first of several";
        due("uncle", x.uncle(0), 0);
        x.hide(0, 1, 0, 1);
        due("the next one", x.uncle(0), 1);
        x.anew();
        promise = "37: the first of several";
        due("match 0", x.match(0), 1);
        due("match 3", x.match(3), 0);
        promise = "38: the least of several";
        // On PLOT 0 and on PLOT 3 he has -2, between -4.
        due("stay 1", x.stay(1), 0);
        due("stay 3", x.stay(3), 0);
        SpiteField low = on("field kinds 2 law 0 fades 0 odds 0;person hates 0 1 hates 1 5;person hates 1 1;person hates 1 1;");
        // On PLOT 0 he GROWS 1 (-5), on 1 he smells 1 besides (-6), on 2 he is bare and smells 1.
        due("all below 0", low.stay(0), 2);
        promise = "31: the first of several";
        due("lean", on(HEAD + "person;").lean(), 0);
        due("lean of even ones", on("field kinds 1 law 0 fades 0 odds 0;person;").lean(), 0);
        promise = "46: the least KIND";
        SpiteField y = on("field kinds 3 law 0 fades 0 odds 0;person;person hates 1 5 hates 2 4;");
        due("lie", y.lie(1), 1);
        promise = "47: of fewest, the least; 0: none is better";
        // 1 hid: 4 smell; both hid: none.
        due("both", y.lies(1), 6);
        SpiteField z = on("field kinds 3 law 0 fades 0 odds 0;person loves 2 1 loves 1 1;person hates 1 5 hates 2 5;");
        due("one alone is no better", z.lie(1), NONE);
        due("both are", z.lies(1), 6);
        SpiteField w = on("field kinds 3 law 0 fades 0 odds 0;person loves 2 1;person hates 0 3 hates 1 3 hates 2 5;");
        // 2 hid: 3 smells; with all three hid nothing does.
        due("lie", w.lie(1), 2);
        due("all", w.lies(1), 7);
        due("none hates him", w.lies(0), 0);
        liesByFewest();
    }

    private static void liesByFewest() {
        promise = "47: of fewest, the least";
        // The last one's own hate DECIDES for himself: alone, by law 2. Hid he is bare and HAS 0.
        SpiteField x = on("field kinds 2 law 2 fades 0 odds 0;person hates 0 2 hates 1 1;");
        due("1 grown: 1 less", x.has(0, 0), -1);
        due("hid alone, he grows worse", x.lie(0), NONE);
        due("both hid: bare", x.lies(0), 3);
        // By law 3 P1 smells of P0 and P2; P0 loves 0, P2 loves 0: hid 0 alone does for both.
        SpiteField y = on("field kinds 3 law 3 fades 0 odds 0;person loves 0 2;person hates 0 9 loves 1 1;person loves 0 3;");
        due("one does", y.lies(1), 1);
        y.hide(1, 0, 0, 1);
        due("hid already", y.lies(1), 0);
        promise = "48: PERSONS who have a LIE";
        due("none", y.liars(), 0);
        y.undo();
        due("he alone", y.liars(), 2);
        due("two hid together are no LIE", x.liars(), 0);
        SpiteField six = on("field kinds 1 law 2 fades 0 odds 0;" + "person hates 0 1;".repeat(6));
        due("all six", six.liars(), 63);
        due("the first one alone", on("field kinds 1 law 2 fades 0 odds 0;person hates 0 3;person;").liars(), 1);
        due("the last one alone", on("field kinds 1 law 0 fades 0 odds 0;" + "person;".repeat(5) + "person hates 0 3;").liars(), 32);
        promise = "V: hid besides in SEASON 0";
        SpiteField z = on("field kinds 2 law 0 fades 0 odds 0;person loves 0 2;person hates 0 5 hates 1 3;");
        z.hide(1, 0, 0, 1);
        // 0 stays hid: with 1 hid besides P0 is bare. (0 open again he would smell 5.)
        due("lie besides", z.lie(1), 1);
        due("lies besides", z.lies(1), 2);
        SpiteField w = on("field kinds 1 law 0 fades 3 odds 0;person;person hates 0 2;");
        due("in SEASON 0, not in 1", w.lie(1), 0);
        due("in SEASON 0, not in 1", w.lies(1), 1);
        due("in SEASON 0, not in 1", w.liars(), 2);
    }

    private static void nobodyAndNone() {
        promise = "22, 33, 37: NONE: there are none";
        SpiteField nobody = on(HEAD);
        due("happiest", nobody.happiest(12), NONE);
        due("uncle", nobody.uncle(12), NONE);
        due("lines", nobody.count(6), 1);
        due("swap", nobody.swap(0, 0, 0), -2);
        due("hide", nobody.hide(0, 0, 0, 1), -2);
        due("rate", nobody.rate(3), 1);
        due("undo", nobody.undo(), -5);
        due("anew", nobody.anew(), 0);
        for (int s = 0; s < 13; s++) {
            due("bare in " + s, nobody.bare(s), 0);
            due("saints in " + s, nobody.saints(s), 0);
            due("all in " + s, nobody.all(s), 0);
            due("kinds in " + s, nobody.kinds(s), 0);
            due("foe in " + s, nobody.foe(s), NONE);
        }
        SpiteField one = on(HEAD + "person;");
        due("match", one.match(0), NONE);
        due("happiest of one", one.happiest(0), 0);
        due("uncle of one who hates nothing", one.uncle(0), 0);
        promise = "36, 49, 50, 55: one twice";
        due("ahead", one.ahead(0, 0), -2);
        due("rests", one.rests(0, 0), -2);
        due("gets", one.gets(0, 0, 0, 0), -1000);
        due("gain", one.gain(0, 0), -1000);
        promise = "39, 53, 54: no pair";
        due("treaties", one.treaties(), 0);
        due("trades", one.trades(), 0);
        due("trade", one.trade(), NONE);
    }

    // ---- IV to VII ----

    private static void ordersOfAll() {
        promise = "40 to 44: all ORDERS, none, one";
        SpiteField even = on("field kinds 1 law 0 fades 0 odds 0;" + "person;".repeat(6));
        due("best", even.best(), 0);
        due("all 720", even.ways(), 720);
        due("all bare", even.fewest(), 6);
        due("none full", even.full(), 0);
        for (int i = 0; i < 6; i++) {
            due("the least row", even.order(i), i);
        }
        SpiteField haters = on("field kinds 1 law 2 fades 0 odds 0;" + "person hates 0 1;".repeat(6));
        due("best", haters.best(), -12);
        due("all 720", haters.ways(), 720);
        due("none bare", haters.fewest(), 0);
        due("all full", haters.full(), 720);
        // All is best in the greatest row alone: each GROWS 9 by the one told ahead of him, the first is the last.
        SpiteField last = on("field kinds 5 law 0 fades 0 odds 0;person hates 0 1;person loves 0 9 hates 1 1;"
            + "person loves 1 9 hates 2 1;person loves 2 9 hates 3 1;person loves 3 9 hates 4 1;person loves 4 9;");
        due("best", last.best(), 5 * 9 - 5);
        due("one way", last.ways(), 1);
        for (int i = 0; i < 6; i++) {
            due("the greatest row", last.order(i), 5 - i);
        }
        SpiteField one = on("field kinds 1 law 1 fades 0 odds 0;person loves 0 9;");
        due("best of one", one.best(), 9);
        due("one way", one.ways(), 1);
        due("one full", one.full(), 1);
        due("order", one.order(0), 0);
        due("no plot 1", one.order(1), -2);
        promise = "IV: hates hid in it as now";
        haters.hide(0, 0, 0, 1);
        due("one bare by any", haters.fewest(), 1);
        due("none full", haters.full(), 0);
        haters.undo();
        haters.hide(0, 0, 1, 1);
        due("hid later on", haters.full(), 720);
    }

    private static void whoMustGo() {
        promise = "45: the least set (of fewest, bits)";
        due("nobody there", on(HEAD).clear(), 0);
        due("nobody need go", on("field kinds 1 law 1 fades 0 odds 0;person;").clear(), 0);
        due("all must go", on("field kinds 1 law 0 fades 0 odds 0;" + "person;".repeat(6)).clear(), 63);
        due("all haters, law 0: the last is bare always", on("field kinds 1 law 0 fades 0 odds 0;"
            + "person hates 0 1;".repeat(6)).clear(), 63);
        // P0 may grow by P1 alone, P1 by law: either of P0 (bits 1) would do, and P1 does not hate.
        due("the least of fewest", on("field kinds 1 law 1 fades 0 odds 0;person;person;").clear(), 1);
        // P1 does not hate: P0 is bare; P0 gone, or P1 gone (P2 hates): the least is P0.
        due("the least of two", on("field kinds 1 law 1 fades 0 odds 0;person;person;person hates 0 1;").clear(), 1);
        // By law 2 P0 DECIDES for P2; he hates nothing, P1 and P2 do: P0 must go.
        due("the first", on("field kinds 1 law 2 fades 0 odds 0;person;person hates 0 1;person hates 0 1;").clear(), 1);
        // By law 3 alone nobody DECIDES.
        due("two haters by law 3", on("field kinds 1 law 3 fades 0 odds 0;person hates 0 1;person hates 0 1;").clear(), 0);
        due("one hater by law 3", on("field kinds 1 law 3 fades 0 odds 0;person hates 0 1;person;").clear(), 3);
        SpiteField x = on("field kinds 1 law 1 fades 0 odds 0;person;person hates 0 1;person;");
        // Row 0 1 2: P1 is bare, and must go, or P2; P1 gone: P0 is bare by P2. So P2: bits 4.
        due("as they stand", x.clear(), 4);
        x.swap(0, 2, 0);
        // Row 2 1 0: P1 is bare by P0: P0 goes.
        due("as they stand by acts", x.clear(), 1);
        x.swap(0, 2, 1);
        due("in SEASON 0", x.clear(), 1);
    }

    private static void hidingGames() {
        promise = "VI, 39, 49, 50: less 2; neither GETS more by the other choice alone";
        for (int size = 1; size <= 3; size++) {
            SpiteField x = on("field kinds 1 law 0 fades 0 odds 0;person;person hates 0 " + size + ";");
            due("as now", x.gets(1, 0, 0, 0), -size);
            due("hid", x.gets(1, 0, 1, 0), -2);
            due("the other hides nothing", x.gets(1, 0, 0, 1), -size);
            due("he pays all the same", x.gets(0, 1, 1, 0), -2);
            due("both", x.gets(0, 1, 1, 1), -2);
            due("rests by " + size, x.rests(0, 1), size < 2 ? 1 : size == 2 ? 5 : 4);
            due("rests by " + size, x.rests(1, 0), size < 2 ? 1 : size == 2 ? 3 : 2);
            due("treaties", x.treaties(), 0);
        }
        // Each of two smells the other one (law 2): hid both GET -2 in place of -size + 0.
        for (int size = 1; size <= 3; size++) {
            SpiteField x = on("field kinds 2 law 2 fades 0 odds 0;person hates 0 " + size + ";person hates 0 " + size + ";");
            due("as now", x.gets(0, 1, 0, 0), -2 * size);
            due("both", x.gets(0, 1, 1, 1), -2);
            due("treaties by " + size, x.treaties(), size > 1 ? 1 : 0);
            due("rests by " + size, x.rests(0, 1), size == 1 ? 1 : size == 2 ? 15 : 8);
        }
        SpiteField y = on("field kinds 1 law 2 fades 0 odds 0;" + "person hates 0 3;".repeat(6));
        due("all 15 pairs", y.treaties(), 15);
        SpiteField even = on("field kinds 1 law 0 fades 0 odds 0;person;person hates 0 2;person hates 0 3;");
        even.swap(1, 2, 0);
        // Row 0 2 1: P2 GROWS 0 and smells it, -6; P1 is bare and smells 2: hid he GETS -2, no more.
        due("the lesser one gets no more", even.treaties(), 0);
        due("the greater one does", even.gets(2, 1, 1, 1) - even.gets(2, 1, 0, 0), 4);
        SpiteField five = on("field kinds 5 law 0 fades 0 odds 0;person loves 4 7;person hates 1 2 hates 4 3;");
        due("by his last KIND", five.gets(0, 1, 0, 0), 7);
        due("all KINDS hid", five.gets(0, 1, 0, 1), 0);
        due("all KINDS hid", five.gets(1, 0, 1, 0), -2);
        due("as now", five.gets(1, 0, 0, 0), -3);
        promise = "49: hid as now";
        y.hide(0, 0, 0, 1);
        due("hid already: he pays for nothing", y.gets(0, 1, 1, 0), y.gets(0, 1, 0, 0) - 2);
        due("hid, he has as now", y.gets(0, 1, 0, 0), -3);
    }

    private static void worthAtEnds() {
        promise = "51: n -9 .. 9 (below 0, too)";
        SpiteField x = on("field kinds 2 law 1 fades 0 odds 0;person;");
        for (int n = -11; n <= 11; n++) {
            int want = n < -9 || n > 9 ? -10000 : Math.max(n, 0);
            due("worth " + n, x.worth(0, 0, n), want);
        }
        SpiteField y = on("field kinds 1 law 1 fades 0 odds 0;person loves 0 9;");
        due("18 less", y.worth(0, 0, -9), -18);
        due("9 less", y.worth(0, 0, 0), -9);
        due("as now", y.worth(0, 0, 9), 0);
        due("all stays", y.has(0, 0), 9);
        promise = "52: if greater than now";
        due("by 1: P0 has 1 more, P1 smells 1", on("field kinds 1 law 0 fades 0 odds 0;person loves 0 1;person;").learn(1), NONE);
        due("by 1: P0 has 2 more", on("field kinds 1 law 0 fades 0 odds 0;person loves 0 2;person;").learn(1), 0);
        due("one less by it, less to smell", on("field kinds 1 law 0 fades 0 odds 0;person;person hates 0 2;").learn(1), 0);
        due("by 1 already", on("field kinds 1 law 0 fades 0 odds 0;person;person hates 0 1;").learn(1), NONE);
        due("the least of several", on("field kinds 5 law 0 fades 0 odds 0;person loves 3 2 loves 4 2;person;").learn(1), 3);
        due("the last KIND", on("field kinds 5 law 0 fades 0 odds 0;person loves 3 2 loves 4 3;person;").learn(1), 4);
        promise = "53, 54: both HAVE more";
        // P0 GROWS 0 by P1 who smells it; changed P1 is bare, HAS 0, P0 may grow all.
        due("P0 has as before", on("field kinds 1 law 1 fades 0 odds 0;person;person hates 0 1;").trades(), 0);
        SpiteField last = on("field kinds 2 law 1 fades 0 odds 0;person;person;person hates 1 1;person;person loves 1 9;"
            + "person hates 0 4;");
        last.swap(0, 4, 0);
        last.swap(1, 5, 0);
        // Row 4 5 2 3 0 1: P4 GROWS 0 (0), P5 GROWS 1 by P2 and smells 4. Changed P5 is bare, P4 GROWS 1 (9).
        due("one alone", last.trades(), 1);
        due("the last pair", last.trade(), 45);
        due("in SEASON 0, not in 1", on("field kinds 2 law 1 fades 3 odds 0;person loves 1 9;person hates 0 3;").trades(), 1);
        promise = "55: below 0, too";
        SpiteField lost = on("field kinds 1 law 1 fades 0 odds 0;person loves 0 9;person hates 0 1;");
        // Now 9 and -1 - 1; changed P1 is bare, P0 has 9.
        due("gain", lost.gain(0, 1), 2);
        lost.swap(0, 1, 0);
        due("taken back", lost.gain(0, 1), -2);
        due("by either", lost.gain(1, 0), -2);
    }

    private static void spoonRows() {
        SpiteField x = on(SIX);
        for (int slot : new int[] {-1, 4, Integer.MIN_VALUE, Integer.MAX_VALUE}) {
            spoonsDue(x, slot, -2, -2, -2, -2, -2);
        }
        spoonsDue(x, 3, -6, -6, -6, -6, -6);
        row(x, 3);
        // P0 GROWS of each set the least KIND but 0, which he hates: 16 sets with 1, 8 with 2 but not 1, ...
        spoonsDue(x, 3, 32, 0, 0, 0, 16);
        for (int n : new int[] {1, 3, 59}) {
            x.row(3, n % 4, n);
            spoonsDue(x, 3, -2, -2, -2, -2, -2);
        }
        x.row(3, 0, 60);
        for (int i = 0; i < 60; i += 2) {
            x.write(3, i, 5);
            x.write(3, i + 1, 4);
        }
        // P5 loves 4: each set with 4. Of these P0 tells 8, 4, 2, and 0 or none: at worst 8; P1 likewise.
        spoonsDue(x, 3, 16, 16, 0, 0, 8);
        x.write(3, 59, 3);
        spoonsDue(x, 3, 0, NONE, NONE, NONE, 0);
        x.write(3, 59, 5);
        spoonsDue(x, 3, -2, -2, -2, -2, -2);
    }

    private static void spoonNumbers() {
        SpiteField x = on(SIX);
        long[][] wrong = {{6, 0}, {-1, 0}, {0, 5}, {0, -2}, {Long.MAX_VALUE, 0}, {0, Long.MIN_VALUE}, {1L << 32, 0},
            {0, (1L << 32) - 1}, {(1L << 32) + 5, 0}, {0, 0, 6, 0}, {0, 0, 0, 5}, {0, 0, 5, -2}};
        for (long[] numbers : wrong) {
            row(x, 0, numbers);
            spoonsDue(x, 0, -2, -2, -2, -2, -2);
        }
        row(x, 0, 5, 4);
        spoonsDue(x, 0, 16, 16, 0, 0, 8);
        row(x, 0, 5, NONE);
        spoonsDue(x, 0, 1, 0, 31, NONE, 1);
        // P4 hates 4: he would GROW it of the set of 4 alone.
        row(x, 0, 4, 4);
        spoonsDue(x, 0, 1, 16, 15, NONE, 1);
        row(x, 0, 0, 0);
        spoonsDue(x, 0, 1, 1, 30, NONE, 1);
        promise = "56: -2: no FIELD, ahead of -6; a number is none such, last";
        SpiteField none = new SpiteField();
        due("no field, nothing", none.spoons(0), -2);
        due("no such slot", none.spoons(4), -2);
        SpiteField nobody = on(HEAD);
        due("nothing", nobody.spoons(0), -6);
        row(nobody, 0);
        due("nobody told, nobody there", nobody.spoons(0), 4);
        row(nobody, 0, 0, NONE);
        due("nobody is 0", nobody.spoons(0), -2);
        promise = "VII: by TASTES as told in the text";
        SpiteField y = on("field kinds 2 law 1 fades 0 odds 0;person;");
        row(y, 0, 0, 0);
        due("0 of all", y.spoons(0), 2);
        y.hide(0, 0, 0, 1);
        y.rate(3);
        due("acts change nothing", y.spoons(0), 2);
    }

    private static void asked() {
        promise = "59, 60: if fewer than now, the first of several; as now without";
        SpiteField x = on("field kinds 2 law 0 fades 0 odds 0;person;person;person loves 1 1;");
        row(x, 0);
        spoonsDue(x, 0, 4, 0, 0, 0, 2);
        row(x, 0, 0, 0);
        // {0} and {0, 1}: P0 and P1 grow 0 by both, P2 tells them.
        spoonsDue(x, 0, 2, 1, 0, 2, 1);
        row(x, 0, 0, 0, 2, 1);
        spoonsDue(x, 0, 1, 3, 0, NONE, 1);
        SpiteField y = on("field kinds 2 law 0 fades 0 odds 0;person;person;");
        row(y, 0, 0, 0);
        spoonsDue(y, 0, 2, 1, 0, NONE, 2);
        row(y, 0, 0, 0, 1, 1);
        spoonsDue(y, 0, 0, NONE, NONE, NONE, 0);
        SpiteField one = on("field kinds 1 law 0 fades 0 odds 0;person;");
        row(one, 0);
        spoonsDue(one, 0, 2, 0, 0, 0, 1);
        row(one, 0, 0, 0);
        spoonsDue(one, 0, 1, 1, 0, NONE, 1);
        row(one, 0, 0, NONE);
        spoonsDue(one, 0, 1, 0, 1, NONE, 1);
    }

    private static void judgesAtEnds() {
        promise = "61: the least set of fewest; NONE: not even all";
        due("nobody", on(HEAD).judges(), NONE);
        due("one of one KIND", on("field kinds 1 law 0 fades 0 odds 0;person hates 0 9;").judges(), 1);
        due("the first of six", on("field kinds 1 law 0 fades 0 odds 0;" + "person;".repeat(6)).judges(), 1);
        String five = "field kinds 5 law 0 fades 0 odds 0;person;person loves 0 1;person loves 1 1;person loves 2 1;"
            + "person loves 3 1;";
        due("five by six", on(five + "person loves 4 1;").judges(), 61);
        due("none loves 4 most", on(five + "person loves 4 1 loves 3 1;").judges(), NONE);
        due("five persons are too few", on(five).judges(), NONE);
        due("the last one is wanted", on("field kinds 2 law 0 fades 0 odds 0;" + "person;".repeat(5)
            + "person hates 0 1;").judges(), 33);
    }

    // ---- VIII: chance, draws ----

    private static void chancesAtEnds() {
        for (int odds = 0; odds <= 10; odds++) {
            SpiteField x = on("field kinds 5 law 0 fades 0 odds " + odds + ";person;person hates 0 1;person hates 0 1 "
                + "hates 1 1 hates 2 1 hates 3 1 hates 4 1;");
            BigInteger all = BigInteger.TEN.pow(5);
            BigInteger five = BigInteger.valueOf(odds).pow(5);
            BigInteger common = five.gcd(all);
            promise = "62: in lowest terms (0 / 1)";
            due("five above by " + odds, x.chance(1, 0), five.divide(common).intValue());
            due("five below by " + odds, x.chance(1, 1), all.divide(common).intValue());
            due("bare by law", x.chance(2, 0), 1);
            due("bare by law", x.chance(2, 1), 1);
            promise = "63: the mean, in lowest terms";
            BigInteger sum = five.add(BigInteger.valueOf(odds * 10000L)).add(all);
            BigInteger shared = sum.gcd(all);
            due("mean above by " + odds, x.mean(0), sum.divide(shared).intValue());
            due("mean below by " + odds, x.mean(1), all.divide(shared).intValue());
            promise = "64: likeliest; NONE: by no chance";
            due("likely by " + odds, x.likely(1), odds == 10 ? NONE : 1);
            due("likely by law", x.likely(2), NONE);
            SpiteField free = on("field kinds 5 law 1 fades 0 odds " + odds + ";person loves 4 1;");
            due("by law he may grow all", free.likely(0), 4);
            promise = "62: by law he may grow all";
            due("never bare", free.chance(0, 0), 0);
            due("never bare", free.chance(0, 1), 1);
        }
        promise = "63: from 0 to 6";
        SpiteField six = on("field kinds 1 law 0 fades 0 odds 0;" + "person;".repeat(6));
        due("six", six.mean(0), 6);
        due("of one", six.mean(1), 1);
        SpiteField none = on("field kinds 1 law 2 fades 0 odds 0;" + "person hates 0 1;".repeat(6));
        due("none", none.mean(0), 0);
        due("of one", none.mean(1), 1);
        SpiteField alone = on("field kinds 2 law 2 fades 0 odds 4;person hates 0 1 hates 1 1;");
        promise = "62: his own hates, alone by law 2";
        due("16 of 100", alone.chance(0, 0), 4);
        due("16 of 100", alone.chance(0, 1), 25);
        promise = "VIII: each hate that is open";
        alone.hide(0, 0, 0, 1);
        due("one open", alone.chance(0, 0), 2);
        due("one open", alone.chance(0, 1), 5);
        alone.hide(0, 1, 0, 1);
        due("none open", alone.chance(0, 0), 1);
        due("none open", alone.chance(0, 1), 1);
        due("none grown", alone.likely(0), NONE);
    }

    /** The draw by the document's words. */
    private static int draw(long seed, int steps) {
        BigInteger x = BigInteger.valueOf(seed);
        for (int i = 0; i < steps; i++) {
            x = x.multiply(BigInteger.valueOf(1103515245)).add(BigInteger.valueOf(12345)).mod(BigInteger.valueOf(2147483648L));
        }
        return x.divide(BigInteger.valueOf(65536)).mod(BigInteger.TEN).intValue();
    }

    private static void drawsAtEnds() {
        promise = "69: a seed 0 .. 2,000,000,000; a draw below odds is lost";
        int[] seeds = {0, 1, 2, 65535, 65536, 1073741823, 1999999999, 2000000000};
        for (int seed : seeds) {
            for (int odds = 0; odds <= 10; odds++) {
                SpiteField x = on("field kinds 2 law 0 fades 0 odds " + odds + ";person;person hates 1 1;person hates 0 1;");
                boolean first = draw(seed, 1) < odds;
                boolean second = draw(seed, 2) < odds;
                due("lost from " + seed, x.drawn(seed, 1), (first ? 1 : 0) + (second ? 1 : 0));
                due("bare from " + seed, x.drawn(seed, 0), (first ? 1 : 0) + (second ? 2 : 0) + 4);
            }
        }
        // From 0: x is 12345, the draw 0.
        due("from 0, odds 0", on("field kinds 1 law 2 fades 0 odds 0;person hates 0 1;").drawn(0, 1), 0);
        due("from 0, odds 1", on("field kinds 1 law 2 fades 0 odds 1;person hates 0 1;").drawn(0, 1), 1);
        promise = "69: hates that are open, in SEASON 0";
        SpiteField all = on("field kinds 5 law 2 fades 0 odds 10;" + ("person hates 0 1 hates 1 1 hates 2 1 hates 3 1 "
            + "hates 4 1;").repeat(6));
        due("30 lost", all.drawn(7, 1), 30);
        due("six bare", all.drawn(7, 0), 63);
        all.hide(5, 4, 0, 1);
        all.hide(5, 3, 1, 1);
        due("29 open ones", all.drawn(7, 1), 29);
        SpiteField skip = on("field kinds 1 law 2 fades 0 odds 5;person hates 0 1;person hates 0 1;");
        for (int seed = 0; seed < 12; seed++) {
            skip.hide(0, 0, 0, 1);
            due("a hid hate takes no draw, " + seed, skip.drawn(seed, 1), draw(seed, 1) < 5 ? 1 : 0);
            skip.undo();
            due("each open one does, " + seed, skip.drawn(seed, 1), (draw(seed, 1) < 5 ? 1 : 0) + (draw(seed, 2) < 5 ? 1 : 0));
        }
        due("nothing is lost for good", skip.open(0, 0), 1);
    }

    private static void luckAtEnds() {
        promise = "70: n 1 .. 20 such from seeds, the seed and 1, ..";
        SpiteField x = on("field kinds 1 law 2 fades 0 odds 5;person hates 0 1;person hates 0 1;");
        for (int seed : new int[] {0, 1, 65530, 1999999981, 1999999990, 2000000000}) {
            for (int n : new int[] {1, 2, 19, 20}) {
                int first = 0;
                int second = 0;
                for (int i = 0; i < n; i++) {
                    second += draw((long) seed + i, 1) < 5 ? 1 : 0;
                    first += draw((long) seed + i, 2) < 5 ? 1 : 0;
                }
                due("P0 from " + seed + ", " + n, x.luck(seed, n, 0), first);
                due("P1 from " + seed + ", " + n, x.luck(seed, n, 1), second);
            }
        }
        due("always bare", on("field kinds 1 law 0 fades 0 odds 0;person;").luck(0, 20, 0), 20);
        due("never bare", on("field kinds 1 law 1 fades 0 odds 10;person;").luck(0, 20, 0), 0);
    }

    // ---- 65 to 71: acts ----

    private static void fortyActs() {
        SpiteField x = on(HEAD + "person hates 0 9;person hates 1 9;");
        for (int i = 0; i < 40; i++) {
            promise = "65, 66: up to 40 acts";
            due("act " + i, i % 2 == 0 ? x.swap(0, 0, i % 13) : x.hide(1, 1, i % 13, 0), 0);
            due("acts", x.count(5), i + 1);
        }
        promise = "65: -5: there were 40 acts; -2 is asked ahead";
        due("one more", x.swap(0, 1, 0), -5);
        due("one twice", x.swap(1, 1, 0), -5);
        due("none such", x.swap(0, 2, 0), -2);
        due("none such", x.swap(-1, 0, 0), -2);
        due("no season", x.swap(0, 1, 13), -2);
        due("nobody moved", x.on(0, 0), 0);
        promise = "66: -5: there were 40 acts; -2 is asked ahead";
        due("one more", x.hide(0, 0, 0, 1), -5);
        due("no more", x.hide(0, 0, 0, 0), -5);
        due("none such", x.hide(2, 0, 0, 1), -2);
        due("no kind", x.hide(0, 2, 0, 1), -2);
        due("no season", x.hide(0, 0, -1, 1), -2);
        due("on 2", x.hide(0, 0, 0, 2), -2);
        due("nothing hid", x.open(0, 0), 1);
        due("40", x.count(5), 40);
        promise = "67: one taken back, one more";
        due("39", x.undo(), 39);
        due("the 40th", x.swap(0, 1, 0), 1);
        due("moved", x.on(0, 0), 1);
        due("one more", x.swap(0, 1, 0), -5);
        promise = "73, 74: 40 acts in an IMAGE";
        due("image", x.image(2), 0);
        due("anew", x.anew(), 40);
        due("room again", x.swap(0, 1, 5), 1);
        due("back", x.back(2), 0);
        due("40", x.count(5), 40);
        due("one more", x.hide(0, 0, 0, 1), -5);
        due("moved", x.on(0, 0), 1);
        for (int i = 39; i >= 0; i--) {
            promise = "67: how many there are";
            due("undo", x.undo(), i);
        }
        due("none", x.undo(), -5);
        due("where he was", x.on(0, 0), 0);
    }

    private static void actsOfEnds() {
        promise = "65: from a SEASON on; one twice is an act all the same";
        SpiteField x = on(SIX);
        due("the first and the last", x.swap(0, 5, 12), 1);
        for (int s = 0; s < 13; s++) {
            due("on 0 in " + s, x.on(0, s), s < 12 ? 0 : 5);
            due("plot 0 in " + s, x.plot(0, s), s < 12 ? 0 : 5);
        }
        due("in 0", x.swap(5, 0, 0), 1);
        for (int s = 0; s < 13; s++) {
            due("on 5 in " + s, x.on(5, s), s < 12 ? 0 : 5);
        }
        due("one twice", x.swap(3, 3, 0), 0);
        due("three acts", x.count(5), 3);
        due("undo takes it", x.undo(), 2);
        due("all as before", x.on(5, 0), 0);
        promise = "65: acts of one SEASON one behind the other";
        SpiteField y = on(HEAD + "person;person;person;");
        y.swap(0, 1, 7);
        y.swap(1, 2, 7);
        // 0 1 2, then 1 0 2, then 2 0 1.
        due("on 0", y.on(0, 7), 2);
        due("on 1", y.on(1, 7), 0);
        due("on 2", y.on(2, 7), 1);
        due("ahead of it", y.on(0, 6), 0);
        promise = "66: from a SEASON no later, of one SEASON the latest given";
        SpiteField z = on("field kinds 2 law 1 fades 0 odds 0;person hates 1 9;");
        due("in 12", z.hide(0, 1, 12, 1), 0);
        due("in 0 no more", z.hide(0, 1, 0, 0), 0);
        due("open in 11", z.open(0, 11), 2);
        due("hid in 12", z.open(0, 12), 0);
        due("no more in 12", z.hide(0, 1, 12, 0), 1);
        due("open in 12", z.open(0, 12), 2);
        due("again in 12", z.hide(0, 1, 12, 1), 0);
        due("hid in 12", z.open(0, 12), 0);
        due("in 0", z.hide(0, 1, 0, 1), 0);
        due("hid in 11", z.open(0, 11), 0);
        due("it was hid in 5", z.hide(0, 1, 5, 0), 1);
        due("hid in 4", z.open(0, 4), 0);
        due("open in 5", z.open(0, 5), 2);
        due("hid in 12 still", z.open(0, 12), 0);
        due("the other KIND stays", z.hide(0, 0, 12, 0), 0);
    }

    private static void nothingToUndo() {
        promise = "67: -5: there is none; -2: there is no FIELD";
        SpiteField x = new SpiteField();
        due("no field", x.undo(), -2);
        tape(x, HEAD + "person;");
        x.field();
        due("none", x.undo(), -5);
        x.swap(0, 0, 0);
        due("0 left", x.undo(), 0);
        due("none", x.undo(), -5);
        promise = "68: how many there were; -2: there is no FIELD";
        due("none", x.anew(), 0);
        x.hide(0, 1, 12, 1);
        due("one", x.anew(), 1);
        due("hid no more", x.hide(0, 1, 12, 1), 0);
        x.field();
        due("no field", x.anew(), -2);
        due("no field", x.undo(), -2);
    }

    private static void rates() {
        promise = "71: fades is n (0 .. 3): what it was; -5: there were acts; -2 is asked ahead";
        SpiteField x = on("field kinds 1 law 0 fades 3 odds 0;person hates 0 9;");
        int before = 3;
        for (int n : new int[] {0, 1, 2, 3, 3, 0}) {
            due("rate " + n, x.rate(n), before);
            due("fades", x.count(2), n);
            due("likes by " + n, x.likes(0, 0, 2), 2 * n - 9);
            before = n;
        }
        for (int n : new int[] {-1, 4, Integer.MIN_VALUE, Integer.MAX_VALUE}) {
            due("rate " + n, x.rate(n), -2);
        }
        x.hide(0, 0, 12, 0);
        due("there were acts", x.rate(1), -5);
        due("as it is, all the same", x.rate(0), -5);
        due("none such", x.rate(4), -2);
        due("none such", x.rate(-1), -2);
        due("fades stays", x.count(2), 0);
        x.undo();
        due("taken back", x.rate(2), 0);
        due("no field", new SpiteField().rate(0), -2);
        promise = "71: the best ORDER is as told";
        due("best", x.best(), 0);
    }

    // ---- 72 to 77: counts, images, rows ----

    private static void counts() {
        promise = "72: NONE for others; no FIELD";
        SpiteField x = new SpiteField();
        for (int what : new int[] {-1, 9, Integer.MIN_VALUE, Integer.MAX_VALUE}) {
            due("count " + what, x.count(what), NONE);
        }
        for (int what = 0; what < 9; what++) {
            due("count " + what, x.count(what), 0);
        }
        for (int slot = 0; slot < 4; slot++) {
            x.row(slot, slot, 0);
            due("slots", x.count(8), slot + 1);
            x.row(slot, 0, 60);
            due("the same again", x.count(8), slot + 1);
        }
        x.row(0, 0, -1);
        x.row(4, 0, 1);
        due("four", x.count(8), 4);
        tape(x, SIX);
        due("bytes", x.count(7), SIX.length());
        x.field();
        int[] wanted = {5, 2, 0, 10, 6, 0, 7, 0, 4};
        for (int what = 0; what < 9; what++) {
            due("count " + what, x.count(what), wanted[what]);
        }
        for (int what : new int[] {-1, 9, 10}) {
            due("count " + what, x.count(what), NONE);
        }
    }

    private static void imagesAtEnds() {
        SpiteField x = on(SIX);
        for (int k : new int[] {-1, 3, Integer.MIN_VALUE, Integer.MAX_VALUE}) {
            promise = "73: -2: no such k";
            due("image " + k, x.image(k), -2);
            promise = "74: -2: no such k";
            due("back " + k, x.back(k), -2);
        }
        promise = "74: -6: it has nothing";
        for (int k = 0; k < 3; k++) {
            due("back " + k, x.back(k), -6);
        }
        due("all stays", x.count(4), 6);
        x.swap(0, 1, 0);
        for (int k = 0; k < 3; k++) {
            x.anew();
            for (int i = 0; i <= k; i++) {
                x.hide(k, k, 0, 1);
            }
            promise = "73: IMAGE k (0 .. 2)";
            due("image " + k, x.image(k), 0);
            promise = "74: -6: it has nothing";
            due("the next " + k, x.back(k + 1), k == 2 ? -2 : -6);
        }
        promise = "74: as IMAGE k has it";
        for (int k = 2; k >= 0; k--) {
            due("back " + k, x.back(k), 0);
            due("its acts " + k, x.count(5), k + 1);
            due("its hid hate " + k, x.open(k, 0), 0);
            due("no other's " + k, x.open((k + 1) % 3, 0), 1 << (k + 1) % 3);
        }
        SpiteField none = new SpiteField();
        promise = "73, 74: an IMAGE of no FIELD";
        due("image", none.image(0), 0);
        due("back", none.back(0), 0);
        due("the others have nothing", none.back(1), -6);
        tape(none, HEAD);
        none.field();
        due("back", none.back(0), 0);
        due("no field", none.count(6), 0);
        due("no field", none.undo(), -2);
    }

    private static void imagesAreCopies() {
        promise = "73, 74: keeps the FIELD, and acts";
        SpiteField x = on(HEAD + "person hates 0 9;person loves 1 2;");
        x.rate(3);
        x.swap(0, 1, 2);
        x.image(0);
        row(x, 2, 0, 0);
        x.undo();
        x.rate(0);
        tape(x, "$");
        due("back", x.back(0), 0);
        due("fades", x.count(2), 3);
        due("acts", x.count(5), 1);
        due("swapped", x.on(0, 2), 1);
        due("the tape is no part of it", x.count(7), 1);
        due("nor are slots", x.count(8), 1);
        due("a fault", x.field(), -4);
        due("back", x.back(0), 0);
        due("the fault is no part of it", x.fault(0), 1);
        x.hide(0, 0, 0, 1);
        x.swap(0, 1, 0);
        due("back of the same", x.back(0), 0);
        due("acts since are gone", x.count(5), 1);
        due("open", x.open(0, 0), 1);
        due("on", x.on(0, 0), 0);
        x.anew();
        due("in place of the older", x.image(0), 0);
        x.swap(0, 1, 0);
        due("back", x.back(0), 0);
        due("no acts", x.count(5), 0);
        x.field();
        due("no field", x.count(4), 0);
        due("back from no field", x.back(0), 0);
        due("two again", x.count(4), 2);
        due("tastes", x.taste(0, 0), -9);
        due("tastes", x.taste(1, 1), 2);
    }

    private static void rowsAtEnds() {
        promise = "75: -2: no such SLOT or WIDTH (0 .. 3), or n is above 60; -3: n is below 0";
        SpiteField x = on(SIX);
        int[] far = {Integer.MIN_VALUE, Integer.MAX_VALUE};
        for (int wrong : new int[] {-1, 4, far[0], far[1]}) {
            due("slot " + wrong, x.row(wrong, 0, 1), -2);
            due("width " + wrong, x.row(0, wrong, 1), -2);
            due("slot, n below 0", x.row(wrong, 0, -1), -2);
            due("width, n below 0", x.row(0, wrong, -1), -2);
        }
        due("n 61", x.row(0, 0, 61), -2);
        due("n far above", x.row(0, 3, far[1]), -2);
        due("n -1", x.row(0, 0, -1), -3);
        due("n far below", x.row(0, 3, far[0]), -3);
        due("none has come", x.count(8), 0);
        for (int slot = 0; slot < 4; slot++) {
            for (int width = 0; width < 4; width++) {
                due("n 60", x.row(slot, width, 60), 0);
                due("the last", x.write(slot, 59, 0), 0);
                due("no more", x.write(slot, 60, 0), -7);
                due("n 0", x.row(slot, width, 0), 0);
                due("none", x.write(slot, 0, 0), -7);
            }
        }
        promise = "75: -3, and the SLOT stays";
        x.row(1, 1, 2);
        x.write(1, 0, 5);
        x.write(1, 1, 4);
        due("as written", x.spoons(1), 16);
        due("n -1", x.row(1, 3, -1), -3);
        due("it stays", x.spoons(1), 16);
        due("its width, too", x.paste(1, 0, 0, 0, 0), -8);
        due("n 61", x.row(1, 3, 61), -2);
        due("width 4", x.row(1, 4, 2), -2);
        due("it stays", x.spoons(1), 16);
        promise = "75: all 0, in place of another one";
        due("again", x.row(1, 1, 2), 0);
        // 0 0: P0 would GROW 0 of the set of 0 alone.
        due("all 0", x.spoons(1), 1);
        x.row(1, 1, 4);
        x.write(1, 2, 5);
        x.write(1, 3, 4);
        x.row(1, 1, 2);
        x.row(1, 1, 4);
        due("all 0 behind a shorter one", x.spoons(1), 1);
    }

    /** A number is seen by spoons alone: as a PERSON 0 .. 5, a KIND -1 .. 4, or none such. */
    private static void cuts() {
        promise = "76: cut to its WIDTH";
        SpiteField x = on(SIX);
        for (int width = 0; width < 4; width++) {
            int bits = 8 << width;
            long[] numbers = {0, 5, 6, -1, 127, 128, 255, 256, 261, -256, -251, 32768, 65535, 65536, 65541, -65536,
                2147483648L, 4294967295L, 4294967296L, 4294967301L, -4294967296L, Long.MIN_VALUE, Long.MAX_VALUE,
                Long.MIN_VALUE + 5};
            for (long v : numbers) {
                x = on(SIX);
                x.row(0, width, 2);
                due("write", x.write(0, 0, v), 0);
                BigInteger cut = BigInteger.valueOf(v).mod(BigInteger.ONE.shiftLeft(bits));
                boolean person = cut.compareTo(BigInteger.valueOf(5)) <= 0;
                x.write(0, 1, NONE);
                due(v + " by width " + width + " as a person", x.spoons(0), person ? 1 : -2);
                x.write(0, 0, 5);
                due("write", x.write(0, 1, v), 0);
                boolean bare = cut.equals(BigInteger.ONE.shiftLeft(bits).subtract(BigInteger.ONE));
                boolean kind = cut.compareTo(BigInteger.valueOf(4)) <= 0;
                // P5 GROWS the least KIND, but for 4: 0 of 8 sets without 4.
                int sets = bare ? 1 : !kind ? -2 : cut.intValue() == 4 ? 16 : 8 >> cut.intValue();
                due(v + " by width " + width + " as a kind", x.spoons(0), sets);
            }
        }
    }

    private static void writes() {
        promise = "76: -2: no such SLOT; -6: it has nothing; -7: no such number";
        SpiteField x = new SpiteField();
        for (int slot : new int[] {-1, 4, Integer.MIN_VALUE, Integer.MAX_VALUE}) {
            due("slot " + slot, x.write(slot, 0, 0), -2);
            due("slot " + slot, x.write(slot, -1, 0), -2);
        }
        for (int slot = 0; slot < 4; slot++) {
            due("nothing", x.write(slot, 0, 0), -6);
            due("nothing, no such number", x.write(slot, -1, 0), -6);
            due("nothing, no such number", x.write(slot, 60, 0), -6);
            for (int n : new int[] {0, 1, 59, 60}) {
                x.row(slot, 3, n);
                for (int i : new int[] {-1, n, n + 1, Integer.MIN_VALUE, Integer.MAX_VALUE}) {
                    due("number " + i + " of " + n, x.write(slot, i, 1), -7);
                }
                due("the first of " + n, x.write(slot, 0, 1), n > 0 ? 0 : -7);
                due("the last of " + n, x.write(slot, n - 1, 1), n > 0 ? 0 : -7);
            }
        }
    }

    private static void pastes() {
        promise = "77: -2, -6, -8, -7 in turn";
        SpiteField x = on(SIX);
        for (int slot : new int[] {-1, 4, Integer.MIN_VALUE, Integer.MAX_VALUE}) {
            due("from " + slot, x.paste(slot, 0, 0, 0, 0), -2);
            due("to " + slot, x.paste(0, 0, slot, 0, 0), -2);
            due("both " + slot, x.paste(slot, -1, slot, -1, -1), -2);
        }
        due("both have nothing", x.paste(0, -1, 1, -1, -1), -6);
        due("its own nothing", x.paste(2, 0, 2, 0, 0), -6);
        x.row(0, 0, 60);
        due("to nothing", x.paste(0, 0, 1, 0, 0), -6);
        due("of nothing", x.paste(1, 0, 0, 0, 0), -6);
        for (int width = 1; width < 4; width++) {
            x.row(1, width, 60);
            due("widths", x.paste(0, 0, 1, 0, 1), -8);
            due("widths, beyond", x.paste(1, -1, 0, 0, 99), -8);
        }
        row(x, 0, 5, 4);
        row(x, 1, 0, 0, 0, 0);
        int far = Integer.MAX_VALUE;
        int[][] wrong = {{-1, 0, 1}, {0, -1, 1}, {0, 0, -1}, {0, 0, 3}, {1, 0, 2}, {2, 0, 1}, {0, 3, 2}, {0, 4, 1},
            {3, 0, 0}, {0, 5, 0}, {far, 0, 1}, {0, far, 1}, {0, 0, far}, {1, 1, far}, {far, far, far}, {far, 0, 0},
            {-far - 1, 0, 1}, {0, -far - 1, 1}, {0, 0, -far - 1}, {-1, 0, 0}, {0, -1, 0}, {1, 0, -1}, {2, 4, far}};
        for (int[] w : wrong) {
            due("paste " + w[0] + " " + w[1] + " " + w[2], x.paste(0, w[0], 1, w[1], w[2]), -7);
            due("nothing happens", x.spoons(1), 1);
            due("nothing happens", x.spoons(0), 16);
        }
        due("none, at the ends", x.paste(0, 2, 1, 4, 0), 0);
        due("none, at the beginnings", x.paste(0, 0, 1, 0, 0), 0);
        due("nothing has come", x.spoons(1), 1);
        due("all it has, to the end", x.paste(0, 0, 1, 2, 2), 0);
        due("0 0 5 4: no set", x.spoons(1), 0);
        due("one number", x.paste(1, 2, 1, 0, 1), 0);
        due("5 0 5 4", x.spoons(1), 0);
        due("and the other", x.paste(1, 3, 1, 1, 1), 0);
        due("5 4 5 4", x.spoons(1), 16);
        x.row(2, 3, 0);
        due("of a row of none", x.paste(2, 0, 1, 4, 0), 0);
        due("to a row of none", x.paste(0, 1, 2, 0, 0), 0);
        due("one of a row of none", x.paste(2, 0, 1, 0, 1), -7);
        due("one to a row of none", x.paste(0, 0, 2, 0, 1), -7);
        pastesAsTheyWere();
    }

    private static void pastesAsTheyWere() {
        promise = "77: or its own, as they were";
        for (int width = 0; width < 4; width++) {
            SpiteField x = on(SIX);
            x.row(0, width, 60);
            for (int i = 0; i < 60; i++) {
                x.write(0, i, i % 2 == 0 ? 5 : i == 1 ? 4 : 9);
            }
            // 5 4 5 9 5 9 ..: one pair is moved on by two, again and again: with one call it comes once.
            due("its own, to the right", x.paste(0, 0, 0, 2, 58), 0);
            due("9 has moved on, too", x.spoons(0), -2);
            for (int i = 4; i < 60; i += 2) {
                x.paste(0, 0, 0, i, 2);
            }
            due("5 4 in all", x.spoons(0), 16);
            x.write(0, 59, NONE);
            due("the last tells else", x.spoons(0), 0);
            due("its own, to the left", x.paste(0, 2, 0, 0, 58), 0);
            x.write(0, 59, 4);
            due("it stands at 57 now", x.spoons(0), 0);
            x.write(0, 57, 4);
            due("there alone", x.spoons(0), 16);
            x.row(1, width, 60);
            due("all of another one", x.paste(0, 0, 1, 0, 60), 0);
            due("all have come", x.spoons(1), 16);
            x.write(0, 1, 0);
            due("the other one's own", x.spoons(1), 16);
            due("in its place", x.paste(1, 0, 1, 0, 60), 0);
            due("as it was", x.spoons(1), 16);
            x.write(1, 1, 255);
            x.paste(1, 1, 1, 3, 1);
            due("255 by width " + width, x.spoons(1), width == 0 ? 0 : -2);
        }
    }

    private static void refusedFirst() {
        promise = "I: -2 is asked ahead of -5, -6";
        SpiteField x = new SpiteField();
        due("spoons: no field, nothing", x.spoons(2), -2);
        due("surely", x.surely(2), -2);
        due("never", x.never(2), -2);
        due("ask", x.ask(2), -2);
        due("leaves", x.leaves(2), -2);
        due("undo: no field, no act", x.undo(), -2);
        due("back: no such k, nothing", x.back(3), -2);
        due("write: no such slot", x.write(4, 0, 0), -2);
        due("paste: one has nothing, one is none such", x.paste(0, 0, 4, 0, 0), -2);
        due("paste: one is none such, one has nothing", x.paste(4, 0, 0, 0, 0), -2);
        tape(x, HEAD + "person;");
        x.field();
        due("spoons: nothing", x.spoons(2), -6);
        due("surely", x.surely(2), -6);
        due("never", x.never(2), -6);
        due("ask", x.ask(2), -6);
        due("leaves", x.leaves(2), -6);
        due("undo: no act", x.undo(), -5);
        due("back: nothing", x.back(2), -6);
    }
}
