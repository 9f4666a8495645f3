import java.math.BigInteger;

/** Worked by hand: for each promise calls whose answers the document gives. */
public final class Promises extends Checks {
    /** P0 4 -2 0, P1 -3 0 -1, P2 0 -4 5; the last one may grow all. */
    static final String THREE = "field kinds 3 law 1 fades 1 odds 5;\nperson loves 0 4 hates 1 2;\n"
            + "person hates 0 3 hates 2 1;\nperson loves 2 5 hates 1 4;";

    public static void main(String[] args) {
        newObject();
        tapes();
        texts();
        faults();
        tastes();
        plots();
        laws();
        growing();
        shares();
        courses();
        people();
        neighbours();
        orders();
        lies();
        games();
        worths();
        trading();
        spoons();
        judges();
        chances();
        acts();
        actsOfSeasons();
        draws();
        rates();
        counts();
        images();
        rows();
        emptyField();
        alone();
        sixPeople();
        readme();
        tell("Promises");
    }

    private static void newObject() {
        promise = "1";
        SpiteField x = new SpiteField();
        for (int what = 0; what <= 8; what++) {
            due("count " + what, x.count(what), 0);
        }
        due("all", x.all(0), -10000);
        due("life", x.life(0), -1000);
        due("undo", x.undo(), -2);
        due("anew", x.anew(), -2);
        due("rate", x.rate(1), -2);
        due("clear", x.clear(), -2);
        due("treaties", x.treaties(), -2);
        due("judges", x.judges(), -2);
        due("mean", x.mean(0), -2);
        due("drawn", x.drawn(0, 0), -2);
        due("swap", x.swap(0, 0, 0), -2);
        due("hide", x.hide(0, 0, 0, 1), -2);
        due("NONE", SpiteField.NONE, -1);
    }

    private static void tapes() {
        promise = "2";
        SpiteField x = new SpiteField();
        for (int i = 1; i <= 40; i++) {
            due("feed " + i, x.feed(0, 0, 0, 0, 0), i * 20);
        }
        due("feed 41", x.feed(0, 0, 0, 0, 0), NONE);
        due("count", x.count(7), 800);
        promise = "3";
        due("end -1", x.end(-1), NONE);
        due("end 801", x.end(801), NONE);
        due("end 800", x.end(800), 800);
        due("end 781", x.end(781), 781);
        promise = "2";
        due("feed to 801", x.feed(1, 1, 1, 1, 1), NONE);
        due("count", x.count(7), 781);
        due("end 780", x.end(780), 780);
        due("feed to 800", x.feed(1, 1, 1, 1, 1), 800);
        promise = "3";
        due("end 0", x.end(0), 0);
        due("end 1 of none", x.end(1), NONE);
        due("count", x.count(7), 0);
        promise = "2";
        due("feed", x.feed(0x6669656c, 0x64206b69, 0x6e647320, 0x32206c61, 0x77203020), 20);
        due("feed", x.feed(0x66616465, 0x73203120, 0x6f646473, 0x2030203b, 0x20202020), 40);
        due("field", x.field(), 1);
        due("count", x.count(0), 2);
    }

    private static void texts() {
        promise = "4";
        SpiteField x = new SpiteField();
        tape(x, THREE);
        due("field", x.field(), 4);
        due("tape", x.count(7), 0);
        due("lines", x.count(6), 4);
        due("taste", x.taste(0, 0), 4);
        x.swap(0, 1, 0);
        tape(x, " \n ");
        due("a text of blanks", x.field(), 0);
        due("no field", x.all(0), -10000);
        due("acts", x.count(5), 0);
        due("kinds", x.count(0), 0);
        tape(x, "field\nkinds05law0fades 003odds 10 ;person;person loves4 9hates 4 1;");
        due("tight", x.field(), 3);
        due("kinds", x.count(0), 5);
        due("fades", x.count(2), 3);
        due("odds", x.count(3), 10);
        due("the last told", x.taste(1, 4), -1);
        due("none told", x.taste(0, 4), 0);
        x.hide(0, 0, 0, 1);
        tape(x, "field kinds 2");
        due("a fault", x.field(), -4);
        due("field stays", x.count(4), 2);
        due("acts stay", x.count(5), 1);
        due("the tape is empty", x.count(7), 0);
        tape(x, THREE);
        due("another one", x.field(), 4);
        due("no acts", x.count(5), 0);
        due("no fault", x.fault(0), 0);
        due("may of this one", x.may(0, 0), 5);
        due("best of this one", x.best(), 6);
        tape(x, "field kinds 3 law 0 fades 0 odds 0;person;person hates 1 1;");
        due("another one", x.field(), 3);
        due("its own tastes alone", x.taste(0, 0), 0);
        due("may of that one", x.may(0, 0), 2);
        due("best of that one", x.best(), 0);
        tape(x, "");
        due("an empty text", x.field(), 0);
        for (int what = 0; what < 8; what++) {
            due("nothing is left " + what, x.count(what), 0);
        }
        tape(x, "field kinds 1 law 0 fades 0 odds 0;person;person;person;person;person;person;");
        due("six", x.field(), 7);
        due("persons", x.count(4), 6);
    }

    private static void faults() {
        promise = "5";
        SpiteField x = new SpiteField();
        due("ahead of any", x.fault(0), 0);
        due("ahead of any", x.fault(1), NONE);
        due("another what", x.fault(2), NONE);
        due("another what", x.fault(-1), NONE);
        fault("field kinds 0", 2, 12);
        fault("field kinds 6 law", 2, 12);
        fault("field kinds 99999999999999999999999", 2, 12);
        fault("field kinds 4294967297", 2, 12);
        fault("field kinds 3 law 4", 2, 18);
        fault("field kinds 3 law 0 fades 4", 2, 26);
        fault("field kinds 3 law 0 fades 3 odds 11", 2, 33);
        fault("field kinds 3 law 0 fades 3 odds 10", 1, 35);
        fault("field kinds 3  ", 1, 15);
        fault("person", 1, 0);
        fault("\n person;", 1, 2);
        fault(";", 1, 0);
        fault("7", 1, 0);
        fault("fieldkinds 3", 1, 0);
        fault("fieldz", 1, 0);
        fault("za", 1, 0);
        fault("field kinds 3 law 0 fades 0 odds 0 0", 1, 35);
        fault("field kinds 3 law 0 fades 0 odds 0 ; ; ", 1, 37);
        fault("field kinds 3,", 1, 13);
        fault("field law 3", 1, 6);
        fault("field 3", 1, 6);
        fault("field kinds law", 1, 12);
        fault("Field", 1, 0);
        fault("field\tkinds", 1, 5);
        fault("field kinds 3 \u00e9", 1, 14);
        fault("field kinds -1", 1, 12);
        String head = "field kinds 2 law 0 fades 0 odds 0;";
        fault(head + "field", 1, 35);
        fault(head + ";", 1, 35);
        fault(head + "law", 1, 35);
        fault(head + "3", 1, 35);
        fault(head + "person", 1, 41);
        fault(head + "person person", 1, 42);
        fault(head + "person field", 1, 42);
        fault(head + "person 3", 1, 42);
        fault(head + "person likes 0 1;", 1, 42);
        fault(head + "person loves", 1, 47);
        fault(head + "person loves ;", 1, 48);
        fault(head + "person loves 2 1;", 2, 48);
        fault(head + "person loves 1;", 1, 49);
        fault(head + "person loves 1 0;", 2, 50);
        fault(head + "person hates 1 10;", 2, 50);
        fault(head + "person hates 1 9 9;", 1, 52);
        fault(head + "person;person;person;person;person;person;person;", 3, 77);
        fault(head + "person;person;person;person;person;person;person $", 3, 77);
        fault(head + "person;person;person;person;person;person;field", 1, 77);
        tape(x, "field");
        x.field();
        due("fault", x.fault(0), 1);
        x.field();
        due("no fault", x.fault(0), 0);
        due("no place", x.fault(1), NONE);
    }

    private static void tastes() {
        SpiteField x = on(THREE);
        promise = "6";
        due("taste 0 0", x.taste(0, 0), 4);
        due("taste 0 1", x.taste(0, 1), -2);
        due("taste 1 1", x.taste(1, 1), 0);
        due("taste 3 0", x.taste(3, 0), -100);
        due("taste -1 0", x.taste(-1, 0), -100);
        due("taste 0 3", x.taste(0, 3), -100);
        due("taste 0 -1", x.taste(0, -1), -100);
        promise = "7";
        int[][] wanted = {{4, -2, 0, -3, 0, -1, 0, -4, 5}, {5, -1, 0, -2, 1, 0, 0, -3, 6},
            {6, 0, 0, -1, 2, 0, 0, -2, 7}, {7, 0, 0, 0, 3, 0, 0, -1, 8}, {7, 0, 0, 0, 4, 0, 0, 0, 9}};
        for (int s = 0; s < 13; s++) {
            for (int i = 0; i < 9; i++) {
                due("likes " + i / 3 + " " + i % 3 + " " + s, x.likes(i / 3, i % 3, s), wanted[Math.min(s, 4)][i]);
            }
        }
        due("likes 0 0 13", x.likes(0, 0, 13), -100);
        due("likes 0 0 -1", x.likes(0, 0, -1), -100);
        due("likes 0 3 0", x.likes(0, 3, 0), -100);
        due("likes 3 0 0", x.likes(3, 0, 0), -100);
        due("taste stays", x.taste(1, 1), 0);
        SpiteField y = on("field kinds 1 law 2 fades 3 odds 0;person hates 0 9;");
        int[] course = {-9, -5, -1, 0, 0};
        for (int s = 0; s < 5; s++) {
            due("likes of one alone " + s, y.likes(0, 0, s), course[s]);
        }
        promise = "8";
        due("hates 1 0", x.hates(1, 0), 5);
        due("hates 1 1", x.hates(1, 1), 1);
        due("hates 1 3", x.hates(1, 3), 0);
        due("hates 3 0", x.hates(3, 0), -2);
        due("hates 0 13", x.hates(0, 13), -2);
        x.hide(1, 0, 0, 1);
        due("hid hates, too", x.hates(1, 0), 5);
        promise = "9";
        due("open 1 0", x.open(1, 0), 4);
        due("open 0 0", x.open(0, 0), 2);
        due("open 3 0", x.open(3, 0), -2);
        due("open 0 -1", x.open(0, -1), -2);
        promise = "10";
        due("haters 0 0", x.haters(0, 0), 0);
        due("haters 1 0", x.haters(1, 0), 5);
        due("haters 2 0", x.haters(2, 0), 2);
        due("haters 3 0", x.haters(3, 0), -2);
        due("haters 0 13", x.haters(0, 13), -2);
        x.undo();
        due("haters 0 0", x.haters(0, 0), 2);
    }

    private static void plots() {
        SpiteField x = on(THREE);
        x.swap(0, 2, 1);
        promise = "11";
        due("on 0 0", x.on(0, 0), 0);
        due("on 2 0", x.on(2, 0), 2);
        due("on 0 1", x.on(0, 1), 2);
        due("on 0 12", x.on(0, 12), 2);
        due("on 3 0", x.on(3, 0), -2);
        due("on -1 0", x.on(-1, 0), -2);
        due("on 0 13", x.on(0, 13), -2);
        promise = "12";
        due("plot 2 0", x.plot(2, 0), 2);
        due("plot 2 1", x.plot(2, 1), 0);
        due("plot 3 0", x.plot(3, 0), -2);
        due("plot 0 -1", x.plot(0, -1), -2);
    }

    private static void laws() {
        for (int law = 0; law < 4; law++) {
            SpiteField x = on(THREE.replace("law 1", "law " + law));
            promise = "13";
            due("decides 0", x.decides(0, 0), 1);
            due("decides 1", x.decides(1, 0), 2);
            due("decides 2 by law " + law, x.decides(2, 0), new int[] {NONE, NONE, 0, 1}[law]);
            due("decides 3", x.decides(3, 0), -2);
            due("decides in 13", x.decides(0, 13), -2);
            promise = "14";
            due("may 0", x.may(0, 0), 5);
            due("may 2 by law " + law, x.may(2, 0), new int[] {0, 7, 2, 5}[law]);
            due("may 3", x.may(3, 0), -2);
            due("may in -1", x.may(0, -1), -2);
            promise = "15";
            due("grows 2 by law " + law, x.grows(2, 0), new int[] {NONE, 2, 1, 2}[law]);
            promise = "13";
            SpiteField two = on("field kinds 1 law " + law + " fades 0 odds 0;person hates 0 1;person;");
            due("two, by law " + law, two.decides(1, 0), new int[] {NONE, NONE, 0, 0}[law]);
            promise = "19";
            due("has 0 by law " + law, x.has(0, 0), new int[] {4, 4, 2, 4}[law]);
            due("has 1 by law " + law, x.has(1, 0), new int[] {-3, -3, -3, -4}[law]);
            due("has 2 by law " + law, x.has(2, 0), new int[] {-4, 1, -8, 1}[law]);
        }
    }

    private static void growing() {
        SpiteField x = on(THREE);
        promise = "15";
        due("grows 0 0", x.grows(0, 0), 0);
        due("grows 1 0", x.grows(1, 0), 1);
        due("grows 2 0", x.grows(2, 0), 2);
        due("grows 0 3", x.grows(0, 3), NONE);
        due("grows 3 0", x.grows(3, 0), -2);
        due("grows 0 13", x.grows(0, 13), -2);
        SpiteField y = on("field kinds 3 law 1 fades 0 odds 0;person;person hates 1 1 hates 2 2;");
        due("the least of several", y.grows(0, 0), 1);
        due("of all the least", y.grows(1, 0), 0);
        SpiteField z = on("field kinds 3 law 0 fades 0 odds 0;person hates 1 5 hates 2 2;person hates 1 1 hates 2 9;");
        due("also what he hates", z.grows(0, 0), 2);
        due("and eats it", z.likes(0, 2, 1), -1);
        promise = "16";
        due("bare 0", x.bare(0), 0);
        due("bare 3", x.bare(3), 1);
        due("bare 4", x.bare(4), 3);
        due("bare 13", x.bare(13), -2);
        due("bare -1", x.bare(-1), -2);
        promise = "17";
        due("growers 0 0", x.growers(0, 0), 1);
        due("growers 1 0", x.growers(1, 0), 2);
        due("growers 0 3", x.growers(0, 3), 0);
        due("growers 3 0", x.growers(3, 0), -2);
        due("growers -1 0", x.growers(-1, 3), -2);
        due("growers 0 13", x.growers(0, 13), -2);
        promise = "18";
        due("kinds 0", x.kinds(0), 3);
        due("kinds 3", x.kinds(3), 2);
        due("kinds 12", x.kinds(12), 1);
        due("kinds 13", x.kinds(13), -2);
        due("kinds -1", x.kinds(-1), -2);
    }

    private static void shares() {
        SpiteField x = on(THREE);
        int[][] wanted = {{4, -3, 1}, {5, -1, 3}, {6, 1, 5}, {0, 3, 7}, {0, 0, 9}};
        for (int s = 0; s < 13; s++) {
            int[] w = wanted[Math.min(s, 4)];
            promise = "19";
            for (int p = 0; p < 3; p++) {
                due("has " + p + " " + s, x.has(p, s), w[p]);
            }
            promise = "21";
            due("all " + s, x.all(s), w[0] + w[1] + w[2]);
        }
        due("all 13", x.all(13), -10000);
        due("all -1", x.all(-1), -10000);
        promise = "19";
        due("has 3 0", x.has(3, 0), -1000);
        due("has 0 13", x.has(0, 13), -1000);
        x.hide(2, 1, 0, 0);
        x.hide(1, 2, 0, 1);
        due("hid hates, too", x.has(1, 0), -3);
        x.anew();
        promise = "20";
        due("life 0", x.life(0), 15);
        due("life 1", x.life(1), 0);
        due("life 2", x.life(2), 97);
        due("life 3", x.life(3), -1000);
        due("life -1", x.life(-1), -1000);
        promise = "22";
        due("happiest 0", x.happiest(0), 0);
        due("happiest 3", x.happiest(3), 2);
        due("happiest 13", x.happiest(13), -2);
        SpiteField y = on("field kinds 1 law 0 fades 0 odds 0;person;person;");
        due("the first of several", y.happiest(5), 0);
        promise = "25";
        due("joy 1 1", x.joy(1, 1), 1);
        due("joy 0 0", x.joy(0, 0), 4);
        due("joy 0 3", x.joy(0, 3), 0);
        due("joy 3 0", x.joy(3, 0), -1000);
        due("joy 0 13", x.joy(0, 13), -1000);
        promise = "26";
        due("smell 0 0", x.smell(0, 0), 0);
        due("smell 1 0", x.smell(1, 0), 3);
        due("smell 2 1", x.smell(2, 1), 3);
        due("smell 3 0", x.smell(3, 0), -2);
        due("smell 0 -1", x.smell(0, -1), -2);
        SpiteField z = on("field kinds 2 law 3 fades 0 odds 0;person;person hates 0 2 hates 1 3;person loves 1 1;");
        due("of two plots", z.smell(1, 0), 5);
    }

    private static void courses() {
        SpiteField x = on(THREE);
        promise = "23";
        due("fails", x.fails(), 3);
        due("fails by law 0", on(THREE.replace("law 1", "law 0")).fails(), 0);
        due("never", on(THREE.replace("fades 1", "fades 0")).fails(), NONE);
        promise = "24";
        due("peace", x.peace(), 4);
        due("no peace", on(THREE.replace("fades 1", "fades 0")).peace(), NONE);
        x.hide(2, 1, 0, 1);
        due("hid hates, too", x.peace(), 4);
        x.undo();
        promise = "27";
        due("foe 0", x.foe(0), 1);
        due("foe 3", x.foe(3), 1);
        due("foe 4", x.foe(4), NONE);
        due("foe 13", x.foe(13), -2);
        due("the least of several", on("field kinds 2 law 0 fades 0 odds 0;person hates 1 2;person hates 0 2;").foe(0), 0);
        promise = "28";
        due("cools 0 1", x.cools(0, 1), 2);
        due("cools 1 0", x.cools(1, 0), 3);
        due("cools 1 2", x.cools(1, 2), 1);
        due("cools 2 1", x.cools(2, 1), 4);
        due("cools 0 0", x.cools(0, 0), NONE);
        due("no hate", x.cools(1, 1), NONE);
        due("cools 3 0", x.cools(3, 0), -2);
        due("cools 0 3", x.cools(0, 3), -2);
        due("in none", on(THREE.replace("fades 1", "fades 0")).cools(0, 1), NONE);
        promise = "29";
        due("eats 0 0", x.eats(0, 0), 3);
        due("eats 1 1", x.eats(1, 1), 4);
        due("eats 2 2", x.eats(2, 2), 13);
        due("eats 2 0", x.eats(2, 0), 0);
        due("eats 3 0", x.eats(3, 0), -2);
        due("eats 0 -1", x.eats(0, -1), -2);
        promise = "30";
        due("lasts 0", x.lasts(0), 2);
        due("lasts 1", x.lasts(1), 3);
        due("lasts 2", x.lasts(2), 12);
        due("lasts 3", x.lasts(3), -2);
        due("lasts -1", x.lasts(-1), -2);
        due("in 0 alone", on("field kinds 1 law 0 fades 1 odds 0;person;person hates 0 1;").lasts(0), 0);
        due("in none", on("field kinds 2 law 0 fades 0 odds 0;person;").lasts(0), NONE);
        promise = "31";
        due("lean", x.lean(), 0);
        due("lean later", on("field kinds 1 law 0 fades 1 odds 0;person loves 0 9;person hates 0 2;").lean(), 2);
        promise = "32";
        due("change 0", x.change(0), 3);
        due("change 1", x.change(1), 4);
        due("change 2", x.change(2), NONE);
        due("change 3", x.change(3), -2);
        SpiteField y = on("field kinds 1 law 0 fades 1 odds 0;person;person hates 0 1;");
        due("change in 1", y.change(0), 1);
        y.hide(1, 0, 0, 1);
        due("bare for ever", y.change(0), NONE);
        SpiteField z = on("field kinds 1 law 0 fades 0 odds 0;person;person hates 0 1;");
        z.hide(1, 0, 0, 1);
        z.hide(1, 0, 7, 0);
        due("bare until 7", z.change(0), 7);
        promise = "31";
        SpiteField w = on("field kinds 1 law 0 fades 0 odds 0;person loves 0 1;person hates 0 9;");
        w.hide(1, 0, 0, 1);
        w.hide(1, 0, 1, 0);
        due("lean in 1", w.lean(), 1);
    }

    private static void people() {
        SpiteField x = on(THREE);
        promise = "33";
        due("uncle 0", x.uncle(0), 1);
        due("uncle 1", x.uncle(1), 0);
        due("uncle of none", x.uncle(12), 0);
        due("uncle 13", x.uncle(13), -2);
        x.hide(1, 0, 0, 1);
        due("openly", x.uncle(0), 0);
        promise = "34";
        due("saints 0", x.saints(0), 0);
        due("saints 1", x.saints(1), 2);
        due("saints 4", x.saints(4), 7);
        due("saints -1", x.saints(-1), -2);
        x.undo();
        due("saints 3", x.saints(3), 3);
        promise = "35";
        due("loves 0 0", x.loves(0, 0), 1);
        due("loves 1 0", x.loves(1, 0), 0);
        due("loves 1 1", x.loves(1, 1), 2);
        due("loves 3 0", x.loves(3, 0), -2);
        due("loves 0 13", x.loves(0, 13), -2);
    }

    private static void neighbours() {
        SpiteField x = on(THREE);
        promise = "36";
        due("ahead 0 2", x.ahead(0, 2), 1);
        due("ahead 2 1", x.ahead(2, 1), 2);
        due("ahead 0 0", x.ahead(0, 0), -2);
        due("ahead 0 3", x.ahead(0, 3), -2);
        due("ahead 3 0", x.ahead(3, 0), -2);
        x.hide(2, 1, 0, 1);
        due("hid", x.ahead(0, 2), NONE);
        promise = "37";
        due("match 1", x.match(1), 0);
        x.undo();
        due("match 0", x.match(0), 1);
        due("the first of several", x.match(1), 0);
        due("match 2", x.match(2), 1);
        due("match 3", x.match(3), -2);
        SpiteField m = on("field kinds 3 law 0 fades 0 odds 0;person hates 0 2 loves 1 3 loves 2 1;person hates 0 1;"
            + "person hates 1 1;person hates 2 1;");
        due("the one between", m.match(0), 2);
        due("bare is better than a hate", on("field kinds 1 law 0 fades 0 odds 0;person hates 0 1;person hates 0 1;"
            + "person;").match(0), 2);
        m.hide(2, 1, 1, 1);
        due("hid later on", m.match(0), 2);
        m.hide(2, 1, 0, 1);
        due("hid", m.match(0), 3);
        due("no other one", on("field kinds 1 law 0 fades 0 odds 0;person;").match(0), NONE);
        promise = "38";
        due("stay 0", x.stay(0), 0);
        due("stay 1", x.stay(1), 0);
        due("stay 2", x.stay(2), 0);
        due("stay 3", x.stay(3), -2);
        due("stay -1", x.stay(-1), -2);
        x.swap(0, 2, 0);
        due("stay by acts", x.stay(2), 0);
        // On plot 2 he has 4 - 2, on plot 0 (by P1) 4.
        due("stay by acts", x.stay(0), 0);
        SpiteField y = on("field kinds 1 law 1 fades 0 odds 0;person loves 0 5;person;");
        due("stay on the last", y.stay(0), 1);
        y.swap(0, 1, 1);
        due("changed later on", y.stay(0), 1);
        due("the least of several", on("field kinds 1 law 0 fades 0 odds 0;person;person;").stay(1), 0);
    }

    private static void orders() {
        SpiteField x = on(THREE);
        promise = "40";
        due("best", x.best(), 6);
        promise = "41";
        due("order 0", x.order(0), 2);
        due("order 1", x.order(1), 1);
        due("order 2", x.order(2), 0);
        due("order 3", x.order(3), -2);
        due("order -1", x.order(-1), -2);
        promise = "42";
        due("ways", x.ways(), 1);
        promise = "43";
        due("fewest", x.fewest(), 0);
        promise = "44";
        due("full", x.full(), 6);
        promise = "45";
        due("clear", x.clear(), 0);
        promise = "40";
        x.swap(0, 1, 0);
        due("best by acts", x.best(), 6);
        x.hide(1, 0, 0, 1);
        x.hide(1, 2, 0, 1);
        // P0 | P1 and P2 | P1 are 0 now: 012 1, 021 -6, 102 -3, 120 -6, 201 -6, 210 2.
        due("best, hid", x.best(), 2);
        promise = "43";
        due("fewest, hid", x.fewest(), 0);
        promise = "44";
        due("full, hid", x.full(), 2);
        promise = "45";
        due("clear, hid, row 1 0 2", x.clear(), 0);
        x.swap(0, 1, 0);
        due("clear, hid, row 0 1 2", x.clear(), 1);
        x.swap(0, 1, 1);
        due("changed later on", x.clear(), 1);
        promise = "44";
        due("changed later on", x.full(), 2);
        SpiteField y = on("field kinds 1 law 0 fades 0 odds 0;person;person;");
        promise = "42";
        due("all ways", y.ways(), 2);
        promise = "41";
        due("the least row", y.order(0), 0);
        promise = "43";
        due("fewest", y.fewest(), 2);
        promise = "44";
        due("full", y.full(), 0);
        promise = "45";
        due("all must go", y.clear(), 3);
        SpiteField six = on("field kinds 1 law 1 fades 0 odds 0;person;person;person;person;person;person hates 0 1;");
        promise = "42";
        // Best is 0: the hater is the first one, or has nothing but a bare plot to his left.
        due("ways of six", six.ways(), 120);
        promise = "40";
        due("best of six", six.best(), 0);
        promise = "43";
        due("fewest of six", six.fewest(), 4);
        promise = "45";
        due("clear of six", six.clear(), 15);
    }

    private static void lies() {
        SpiteField x = on(THREE);
        promise = "46";
        due("lie 0", x.lie(0), NONE);
        due("lie 1", x.lie(1), 0);
        due("lie 2", x.lie(2), 1);
        due("lie 3", x.lie(3), -2);
        due("lie -1", x.lie(-1), -2);
        promise = "47";
        due("lies 0", x.lies(0), 0);
        due("lies 1", x.lies(1), 5);
        due("lies 2", x.lies(2), 2);
        due("lies 3", x.lies(3), -2);
        promise = "48";
        due("liars", x.liars(), 6);
        x.hide(2, 1, 0, 1);
        promise = "46";
        due("hid already", x.lie(2), NONE);
        promise = "47";
        due("hid already", x.lies(2), 0);
        promise = "48";
        due("liars", x.liars(), 2);
        due("all stays", x.count(5), 1);
        SpiteField y = on("field kinds 2 law 0 fades 0 odds 0;person loves 0 2 loves 1 1;person hates 0 1 hates 1 5;");
        promise = "46";
        due("none alone is better", y.lie(1), NONE);
        promise = "47";
        due("both are", y.lies(1), 3);
        promise = "48";
        due("no LIE", y.liars(), 0);
    }

    private static void games() {
        SpiteField x = on(THREE);
        promise = "39";
        due("treaties", x.treaties(), 1);
        // P1 hides: P0 is bare; P2 hides: P1 is bare. The price is 2, what is saved 2: no more.
        SpiteField even = on("field kinds 1 law 0 fades 0 odds 0;person;person hates 0 2;person hates 0 2;");
        due("no more by it", even.treaties(), 0);
        SpiteField one = on("field kinds 1 law 0 fades 0 odds 0;person;person hates 0 3;person hates 0 2;");
        // P1 grows his own hate: -3, and smells P0's: -6; both hid: 0 - 2.
        due("one alone gets more", one.treaties(), 0);
        SpiteField both = on("field kinds 1 law 0 fades 0 odds 0;person;person hates 0 3;person hates 0 3;person hates 0 3;");
        due("all three pairs", both.treaties(), 3);
        promise = "49";
        due("rests 1 2", x.rests(1, 2), 8);
        due("rests 0 1", x.rests(0, 1), 4);
        due("rests 1 0", x.rests(1, 0), 2);
        due("rests 1 1", x.rests(1, 1), -2);
        due("rests 0 3", x.rests(0, 3), -2);
        due("rests -1 0", x.rests(-1, 0), -2);
        due("both as now", on("field kinds 1 law 0 fades 0 odds 0;person;person;").rests(0, 1), 1);
        SpiteField y = on("field kinds 1 law 0 fades 0 odds 0;person;person hates 0 2;");
        due("alike by both", y.rests(0, 1), 5);
        due("alike by both", y.rests(1, 0), 3);
        promise = "50";
        due("gets 1 2 0 0", x.gets(1, 2, 0, 0), -3);
        due("gets 1 2 1 0", x.gets(1, 2, 1, 0), -2);
        due("gets 1 2 0 1", x.gets(1, 2, 0, 1), -3);
        due("gets 2 1 0 0", x.gets(2, 1, 0, 0), 1);
        due("gets 2 1 1 0", x.gets(2, 1, 1, 0), 3);
        due("gets 2 1 1 1", x.gets(2, 1, 1, 1), 3);
        due("gets 0 1 0 1", x.gets(0, 1, 0, 1), 0);
        due("gets 0 0", x.gets(0, 0, 0, 0), -1000);
        due("gets 0 3", x.gets(0, 3, 0, 0), -1000);
        due("gets hides 2", x.gets(0, 1, 2, 0), -1000);
        due("gets otherHides -1", x.gets(0, 1, 0, -1), -1000);
        due("all stays", x.has(1, 0), -3);
    }

    private static void worths() {
        SpiteField x = on(THREE);
        promise = "51";
        due("worth 0 0 9", x.worth(0, 0, 9), 5);
        due("worth 0 0 4", x.worth(0, 0, 4), 0);
        due("worth 2 2 -5", x.worth(2, 2, -5), -5);
        due("worth 2 0 -1", x.worth(2, 0, -1), 0);
        due("worth 0 0 10", x.worth(0, 0, 10), -10000);
        due("worth 0 0 -10", x.worth(0, 0, -10), -10000);
        due("worth 0 3 0", x.worth(0, 3, 0), -10000);
        due("worth 3 0 0", x.worth(3, 0, 0), -10000);
        due("worth 1 0 -9", x.worth(1, 0, -9), -6);
        promise = "52";
        due("learn 0", x.learn(0), NONE);
        due("learn 1", x.learn(1), 0);
        due("learn 2", x.learn(2), 1);
        due("learn 3", x.learn(3), -2);
        SpiteField y = on("field kinds 3 law 0 fades 0 odds 0;person loves 1 3 loves 2 3;person;");
        due("the least of several", y.learn(1), 1);
        // By 1: P0 grows 0 (1), P1 smells 1: no more than now.
        due("by 1, no more", on("field kinds 1 law 0 fades 0 odds 0;person loves 0 1;person;").learn(1), NONE);
        due("by 1, more", on("field kinds 1 law 0 fades 0 odds 0;person loves 0 2;person;").learn(1), 0);
    }

    private static void trading() {
        SpiteField x = on(THREE);
        promise = "53";
        due("trades", x.trades(), 0);
        promise = "54";
        due("trade", x.trade(), NONE);
        promise = "55";
        due("gain 0 1", x.gain(0, 1), -5);
        due("gain 1 2", x.gain(1, 2), 2);
        due("gain 0 2", x.gain(0, 2), 2);
        due("gain 2 0", x.gain(2, 0), 2);
        due("gain 1 1", x.gain(1, 1), -1000);
        due("gain 0 3", x.gain(0, 3), -1000);
        SpiteField y = on("field kinds 2 law 0 fades 0 odds 0;person loves 0 1 loves 1 8;person hates 1 9;person loves 1 7 hates 0 1;");
        // Now: P0 grows 1 (8); P1 grows 0 (0), has -9; P2 is bare, has -1.
        // 1 2 changed: P0 grows 0 (1); P2 grows 1 (7), has 7 - 1; P1 is bare, has -9.
        // 0 1 changed: P1 grows 0 (0), has 0, decided by P0: who hates nothing: bare.
        promise = "53";
        due("trades", y.trades(), 0);
        promise = "55";
        due("gain 1 2", y.gain(1, 2), 7);
        SpiteField z = on("field kinds 2 law 1 fades 0 odds 0;person hates 1 1;person hates 0 3 loves 1 2;person loves 0 5 hates 1 2;");
        // Now: P0 grows 0 (0), P1 grows 1 (2), has -1, P2 grows 0 (5), has 3.
        // 1 2 changed: P0 grows 1 (-1); P2 grows 0 (5), has 3; P1 grows 1 (2), has -1.
        // 0 1 changed: P1 grows 1 (2), has 2; P0 grows 1 (-1), has -2; no.
        // 0 2 changed: P2 grows 0 (5), has 5; P1 grows 1 (2), has -1; P0 grows 0 (0), has -1; no.
        promise = "54";
        due("trade", z.trade(), NONE);
        SpiteField w = on("field kinds 2 law 0 fades 0 odds 0;person loves 0 3;person;person hates 0 4;");
        // Now: P0 is bare (0), P1 grows 0 (0), P2 is bare, has -4.
        // 0 1 changed: P1 is bare (0), P0 grows 0 (3): P1 as before; no. 1 2: P0 grows 0 (3), P2 bare, -4; no.
        promise = "53";
        due("trades", w.trades(), 0);
        SpiteField v = on("field kinds 2 law 2 fades 0 odds 0;person loves 0 3 hates 1 2;person hates 0 4;person loves 1 5;");
        // Now: P0 grows 0 (3), has 3 - 2 (P2 grows 1 by P0); P1 is bare, has -4; P2 has 5.
        // 0 1 changed, row 1 0 2: P1 grows 1 (0) by P0; P0 is bare by P2; P2 by P1 grows 0 (0):
        //   P1 0 - 4, P0 0 - 2, P2 0: no. 1 2 changed, row 0 2 1: P0 is bare by P2, P2 grows 0 by P1 (0),
        //   P1 grows 1 by P0 (0): P0 0 - 2, P2 0, P1 0 - 4: no.
        due("trades", v.trades(), 0);
        SpiteField u = on("field kinds 2 law 1 fades 0 odds 0;person loves 1 9;person hates 0 4;");
        // Now: P0 grows 0 (0), P1 grows 1 (0), has -4. Changed: P1 is bare, has 0; P0 grows 1 (9).
        promise = "53";
        due("trades", u.trades(), 1);
        promise = "54";
        due("trade", u.trade(), 1);
        promise = "55";
        due("gain", u.gain(1, 0), 13);
        SpiteField t = on("field kinds 2 law 1 fades 0 odds 0;person hates 0 5 hates 1 1;person loves 1 9;person hates 0 4;");
        // Row 1 2 0: P1 grows 0 (0), P2 grows 1 (0), has -4. 1 2 changed: P2 is bare, has 0; P1 grows 1 (9).
        t.swap(0, 1, 0);
        t.swap(0, 2, 0);
        promise = "53";
        due("trades", t.trades(), 1);
        promise = "54";
        due("trade", t.trade(), 12);
    }

    private static void spoons() {
        SpiteField x = on(THREE);
        spoonsDue(x, 0, -6, -6, -6, -6, -6);
        spoonsDue(x, 4, -2, -2, -2, -2, -2);
        spoonsDue(x, -1, -2, -2, -2, -2, -2);
        row(x, 0);
        spoonsDue(x, 0, 8, 0, 0, 0, 4);
        row(x, 0, 0, 0);
        spoonsDue(x, 0, 4, 1, 0, 1, 2);
        row(x, 0, 0, NONE);
        spoonsDue(x, 0, 1, 0, 7, NONE, 1);
        row(x, 0, 0, 2);
        spoonsDue(x, 0, 2, 4, 1, 1, 1);
        row(x, 0, 0, 0, 0, 2);
        spoonsDue(x, 0, 0, NONE, NONE, NONE, 0);
        row(x, 0, 0, 0, 1, 1);
        spoonsDue(x, 0, 2, 3, 0, 2, 1);
        row(x, 0, 0);
        spoonsDue(x, 0, -2, -2, -2, -2, -2);
        row(x, 0, 3, 0);
        spoonsDue(x, 0, -2, -2, -2, -2, -2);
        row(x, 0, 0, 3);
        spoonsDue(x, 0, -2, -2, -2, -2, -2);
        row(x, 0, 0, -2);
        spoonsDue(x, 0, -2, -2, -2, -2, -2);
        row(x, 0, -1, 0);
        spoonsDue(x, 0, -2, -2, -2, -2, -2);
        row(x, 0, 4294967296L, 0);
        spoonsDue(x, 0, -2, -2, -2, -2, -2);
        row(x, 0, 0, 4294967296L);
        spoonsDue(x, 0, -2, -2, -2, -2, -2);
        x.row(1, 0, 2);
        x.write(1, 1, 255);
        spoonsDue(x, 1, 1, 0, 7, NONE, 1);
        x.hide(0, 0, 0, 1);
        spoonsDue(x, 1, 1, 0, 7, NONE, 1);
        SpiteField y = new SpiteField();
        spoonsDue(y, 0, -2, -2, -2, -2, -2);
        y.row(0, 0, 2);
        spoonsDue(y, 0, -2, -2, -2, -2, -2);
    }

    private static void judges() {
        promise = "61";
        due("judges", on(THREE).judges(), 7);
        due("not even all", on("field kinds 2 law 0 fades 0 odds 0;person;person;").judges(), NONE);
        due("two of four", on("field kinds 2 law 0 fades 0 odds 0;person;person;person loves 1 1;person loves 1 2;").judges(), 5);
        due("one", on("field kinds 1 law 0 fades 0 odds 0;person;person;").judges(), 1);
    }

    private static void chances() {
        SpiteField x = on(THREE);
        int[][] wanted = {{1, 4}, {1, 2}, {0, 1}};
        for (int p = 0; p < 3; p++) {
            for (int what = 0; what < 2; what++) {
                promise = "62";
                due("chance " + p + " " + what, x.chance(p, what), wanted[p][what]);
            }
            promise = "64";
            due("likely " + p, x.likely(p), p);
        }
        promise = "62";
        due("chance 3 0", x.chance(3, 0), -2);
        due("chance 0 2", x.chance(0, 2), -2);
        due("chance 0 -1", x.chance(0, -1), -2);
        promise = "63";
        due("mean 0", x.mean(0), 3);
        due("mean 1", x.mean(1), 4);
        due("mean 2", x.mean(2), -2);
        due("mean -1", x.mean(-1), -2);
        promise = "64";
        due("likely 3", x.likely(3), -2);
        x.hide(1, 0, 0, 1);
        due("likely, hid", x.likely(0), 2);
        promise = "62";
        due("chance, hid", x.chance(0, 1), 2);
        SpiteField all = on(THREE.replace("odds 5", "odds 10"));
        due("lost surely", all.chance(0, 0), 1);
        due("lost surely", all.chance(0, 1), 1);
        due("by law", all.chance(2, 0), 0);
        promise = "64";
        due("by no chance", all.likely(0), NONE);
        due("by law", all.likely(2), 2);
        promise = "63";
        due("mean", all.mean(0), 2);
        due("mean", all.mean(1), 1);
        SpiteField none = on(THREE.replace("odds 5", "odds 0"));
        due("mean", none.mean(0), 0);
        due("mean", none.mean(1), 1);
        SpiteField law0 = on(THREE.replace("law 1", "law 0").replace("odds 5", "odds 3"));
        promise = "62";
        due("9 of 100", law0.chance(0, 0), 9);
        due("9 of 100", law0.chance(0, 1), 100);
        due("bare by law", law0.chance(2, 0), 1);
        promise = "64";
        due("bare by law", law0.likely(2), NONE);
        promise = "63";
        due("139 of 100", law0.mean(0), 139);
        due("139 of 100", law0.mean(1), 100);
        promise = "62";
        SpiteField five = on("field kinds 5 law 0 fades 0 odds 9;person;person hates 0 1 hates 1 1 hates 2 1 hates 3 1 hates 4 1;");
        due("five", five.chance(0, 0), 59049);
        due("five", five.chance(0, 1), 100000);
    }

    private static void acts() {
        SpiteField x = on(THREE);
        promise = "65";
        due("swap", x.swap(0, 1, 0), 1);
        due("on 0", x.on(0, 0), 1);
        due("swap of one", x.swap(2, 2, 5), 0);
        due("acts", x.count(5), 2);
        due("swap 0 3", x.swap(0, 3, 0), -2);
        due("swap -1 0", x.swap(-1, 0, 0), -2);
        due("swap in 13", x.swap(0, 1, 13), -2);
        due("swap in -1", x.swap(0, 1, -1), -2);
        promise = "67";
        due("undo", x.undo(), 1);
        due("undo", x.undo(), 0);
        due("on 0", x.on(0, 0), 0);
        due("undo none", x.undo(), -5);
        promise = "66";
        due("hide", x.hide(1, 0, 3, 1), 0);
        due("hide again", x.hide(1, 0, 5, 1), 1);
        due("not ahead of it", x.hide(1, 0, 2, 0), 0);
        due("hide no kind", x.hide(1, 3, 0, 1), -2);
        due("hide nobody's", x.hide(3, 0, 0, 1), -2);
        due("hide in 13", x.hide(1, 0, 13, 1), -2);
        due("hide on 2", x.hide(1, 0, 0, 2), -2);
        due("hide on -1", x.hide(1, 0, 0, -1), -2);
        promise = "68";
        due("anew", x.anew(), 3);
        due("anew", x.anew(), 0);
        promise = "66";
        due("hide a love", x.hide(0, 0, 0, 1), 0);
        due("it is hid", x.hide(0, 0, 0, 0), 1);
        due("it is hid no more", x.hide(0, 0, 0, 0), 0);
        x.anew();
        for (int i = 0; i < 40; i++) {
            promise = "65";
            due("act " + i, x.swap(0, 0, 12), 0);
        }
        due("act 41", x.swap(0, 1, 0), -5);
        due("act 41 of none", x.swap(0, 3, 0), -2);
        promise = "66";
        due("act 41", x.hide(0, 0, 0, 1), -5);
        due("act 41 of none", x.hide(0, 0, 0, 2), -2);
        promise = "67";
        due("undo", x.undo(), 39);
        promise = "66";
        due("act 40", x.hide(0, 1, 0, 1), 0);
        due("acts", x.count(5), 40);
        promise = "68";
        due("anew", x.anew(), 40);
        due("open again", x.open(0, 0), 2);
    }

    private static void actsOfSeasons() {
        SpiteField x = on(THREE.replace("fades 1", "fades 0"));
        promise = "65";
        x.swap(0, 1, 5);
        x.swap(1, 2, 3);
        x.swap(0, 2, 3);
        // In 3: 0 1 2 is 0 2 1, then 2 0 1; in 5: 2 1 0.
        due("plot 0 in 2", x.plot(0, 2), 0);
        due("on 0 in 3", x.on(0, 3), 2);
        due("on 1 in 3", x.on(1, 4), 0);
        due("on 2 in 3", x.on(2, 3), 1);
        due("on 1 in 5", x.on(1, 5), 1);
        due("on 2 in 12", x.on(2, 12), 0);
        x.anew();
        promise = "66";
        x.hide(1, 0, 5, 1);
        x.hide(1, 0, 3, 0);
        x.hide(1, 2, 3, 1);
        due("open in 2", x.open(1, 2), 5);
        due("open in 3", x.open(1, 3), 1);
        due("open in 5", x.open(1, 5), 0);
        due("it was hid in 6", x.hide(1, 0, 6, 0), 1);
        due("open in 6", x.open(1, 6), 1);
        due("open in 5 still", x.open(1, 5), 0);
        due("of one season the latest", x.hide(1, 0, 5, 0), 1);
        due("open in 5", x.open(1, 5), 1);
        promise = "67";
        due("undo", x.undo(), 4);
        due("open in 5 as before", x.open(1, 5), 0);
        promise = "68";
        due("anew", x.anew(), 4);
        due("open in 5", x.open(1, 5), 5);
        due("on 0 in 5", x.on(0, 5), 0);
        due("best", x.best(), 6);
    }

    private static void draws() {
        SpiteField x = on(THREE);
        for (int seed : new int[] {0, 1, 5, 77, 123456789, 2000000000}) {
            BigInteger n = BigInteger.valueOf(seed);
            int[][] hates = {{0, 1}, {1, 0}, {1, 2}, {2, 1}};
            boolean[] lost = new boolean[4];
            int times = 0;
            for (int i = 0; i < 4; i++) {
                n = n.multiply(BigInteger.valueOf(1103515245)).add(BigInteger.valueOf(12345)).mod(BigInteger.TWO.pow(31));
                lost[i] = n.divide(BigInteger.valueOf(65536)).mod(BigInteger.TEN).intValue() < 5;
                times += lost[i] ? 1 : 0;
            }
            int bare = (lost[1] && lost[2] ? 1 : 0) | (lost[3] ? 2 : 0);
            promise = "69";
            due("drawn " + seed + " bare " + hates.length, x.drawn(seed, 0), bare);
            due("drawn " + seed + " lost", x.drawn(seed, 1), times);
        }
        due("drawn -1", x.drawn(-1, 0), -2);
        due("drawn 2000000001", x.drawn(2000000001, 0), -2);
        due("what 2", x.drawn(0, 2), -2);
        due("what -1", x.drawn(0, -1), -2);
        promise = "70";
        for (int p = 0; p < 3; p++) {
            int times = 0;
            for (int i = 0; i < 20; i++) {
                times += x.drawn(5 + i, 0) >> p & 1;
            }
            due("luck " + p, x.luck(5, 20, p), times);
            due("luck of one " + p, x.luck(5, 1, p), x.drawn(5, 0) >> p & 1);
        }
        due("luck 0", x.luck(5, 0, 0), -2);
        due("luck 21", x.luck(5, 21, 0), -2);
        due("luck of nobody", x.luck(5, 1, 3), -2);
        due("luck -1", x.luck(-1, 1, 0), -2);
        due("luck 2000000001", x.luck(2000000001, 1, 0), -2);
        promise = "69";
        due("none lost", on(THREE.replace("odds 5", "odds 0")).drawn(9, 1), 0);
        SpiteField all = on(THREE.replace("odds 5", "odds 10"));
        due("all lost", all.drawn(9, 1), 4);
        due("all bare", all.drawn(9, 0), 3);
        all.hide(1, 0, 0, 1);
        due("open ones alone", all.drawn(9, 1), 3);
        promise = "70";
        due("always", all.luck(2000000000, 20, 0), 20);
    }

    private static void rates() {
        SpiteField x = on(THREE);
        promise = "71";
        due("rate", x.rate(3), 1);
        due("rate", x.count(2), 3);
        due("likes", x.likes(2, 1, 1), -1);
        due("rate 4", x.rate(4), -2);
        due("rate -1", x.rate(-1), -2);
        x.swap(0, 0, 0);
        due("acts", x.rate(0), -5);
        due("none such, acts", x.rate(4), -2);
        x.anew();
        due("rate", x.rate(0), 3);
        due("likes", x.likes(2, 1, 12), -4);
        due("rate", x.rate(2), 0);
        due("likes", x.likes(2, 1, 1), -2);
    }

    private static void counts() {
        SpiteField x = on(THREE);
        promise = "72";
        x.hide(0, 0, 0, 1);
        x.swap(0, 1, 1);
        x.feed(0, 0, 0, 0, 0);
        x.row(3, 0, 0);
        int[] wanted = {3, 1, 1, 5, 3, 2, 4, 20, 1};
        for (int what = 0; what < 9; what++) {
            due("count " + what, x.count(what), wanted[what]);
        }
        due("count 9", x.count(9), NONE);
        due("count -1", x.count(-1), NONE);
    }

    private static void images() {
        SpiteField x = on(THREE);
        promise = "74";
        due("back of nothing", x.back(0), -6);
        due("back 3", x.back(3), -2);
        due("back -1", x.back(-1), -2);
        promise = "73";
        x.rate(2);
        x.swap(0, 2, 0);
        x.hide(1, 0, 0, 1);
        due("image", x.image(0), 0);
        due("image 3", x.image(3), -2);
        due("image -1", x.image(-1), -2);
        x.anew();
        tape(x, "field kinds 1 law 0 fades 0 odds 0;person;");
        x.field();
        x.image(2);
        promise = "74";
        due("back", x.back(0), 0);
        due("acts", x.count(5), 2);
        due("fades", x.count(2), 2);
        due("lines", x.count(6), 4);
        due("on", x.on(0, 0), 2);
        due("open", x.open(1, 0), 4);
        due("best", x.best(), on0());
        x.undo();
        x.undo();
        x.hide(2, 1, 4, 0);
        x.swap(1, 1, 9);
        due("back again", x.back(0), 0);
        due("acts", x.count(5), 2);
        due("on 0", x.on(0, 0), 2);
        due("on 2", x.on(2, 0), 0);
        due("open", x.open(1, 0), 4);
        due("undo", x.undo(), 1);
        due("open", x.open(1, 0), 5);
        due("on 0", x.on(0, 0), 2);
        due("undo", x.undo(), 0);
        due("on 0", x.on(0, 0), 0);
        due("back once more", x.back(0), 0);
        due("back 2", x.back(2), 0);
        due("persons", x.count(4), 1);
        due("best", x.best(), 0);
        due("back 1", x.back(1), -6);
        SpiteField y = new SpiteField();
        promise = "73";
        due("image of no field", y.image(1), 0);
        tape(y, THREE);
        y.field();
        promise = "74";
        due("back to no field", y.back(1), 0);
        due("no field", y.best(), -10000);
    }

    private static int on0() {
        SpiteField x = on(THREE);
        x.hide(1, 0, 0, 1);
        return x.best();
    }

    private static void rows() {
        SpiteField x = on(THREE);
        promise = "75";
        due("row 4", x.row(4, 0, 1), -2);
        due("row -1", x.row(-1, 0, 1), -2);
        due("width 4", x.row(0, 4, 1), -2);
        due("width -1", x.row(0, -1, -1), -2);
        due("n 61", x.row(0, 0, 61), -2);
        due("n -1", x.row(0, 0, -1), -3);
        due("none yet", x.count(8), 0);
        due("n 60", x.row(0, 0, 60), 0);
        due("one", x.count(8), 1);
        promise = "76";
        due("write", x.write(0, 59, 5), 0);
        due("write 60", x.write(0, 60, 5), -7);
        due("write -1", x.write(0, -1, 5), -7);
        due("write to nothing", x.write(1, 0, 5), -6);
        due("write to 4", x.write(4, 0, 5), -2);
        due("a number is none such", x.spoons(0), -2);
        promise = "75";
        due("n -1", x.row(0, 0, -1), -3);
        due("the slot stays", x.write(0, 59, 0), 0);
        due("all is 0", x.spoons(0), 4);
        x.write(0, 0, 1);
        due("in place of another", x.row(0, 3, 2), 0);
        due("all is 0", x.spoons(0), 4);
        promise = "76";
        long[] cut = {1L << 8, 1L << 16, 1L << 32};
        for (int width = 0; width < 4; width++) {
            x.row(0, width, 2);
            for (int i = 0; i < 3; i++) {
                x.write(0, 0, cut[i]);
                due("cut " + i + " by " + width, x.spoons(0), i >= width ? 4 : -2);
                x.write(0, 0, 0);
                x.write(0, 1, cut[i] - 1);
                due("NONE " + i + " by " + width, x.spoons(0), i >= width ? 1 : -2);
                x.write(0, 1, 0);
            }
        }
        pastes();
    }

    private static void pastes() {
        SpiteField x = on(THREE);
        promise = "77";
        due("slot 4", x.paste(4, 0, 0, 0, 0), -2);
        due("to 4", x.paste(0, 0, 4, 0, 0), -2);
        due("nothing", x.paste(0, 0, 1, 0, 0), -6);
        row(x, 0, 0, 0, 1, 1);
        due("to nothing", x.paste(0, 0, 1, 0, 0), -6);
        due("of nothing", x.paste(1, 0, 0, 0, 0), -6);
        x.row(1, 2, 4);
        due("widths", x.paste(0, 0, 1, 0, 9), -8);
        x.row(1, 3, 2);
        due("beyond", x.paste(0, 0, 1, 0, 3), -7);
        due("beyond", x.paste(0, 3, 1, 0, 2), -7);
        due("beyond", x.paste(0, 0, 1, 1, 2), -7);
        due("below", x.paste(0, -1, 1, 0, 1), -7);
        due("below", x.paste(0, 0, 1, -1, 1), -7);
        due("below", x.paste(0, 0, 1, 0, -1), -7);
        due("far", x.paste(0, 1, 1, 1, Integer.MAX_VALUE), -7);
        due("far", x.paste(0, Integer.MAX_VALUE, 1, 0, 1), -7);
        due("nothing happened", x.spoons(1), 4);
        due("paste", x.paste(0, 2, 1, 0, 2), 0);
        // P1 would GROW 1: the sets with 1.
        due("pasted", x.surely(1), 2);
        due("none", x.paste(0, 4, 1, 2, 0), 0);
        row(x, 2, 0, 2, 1, 2, 1, 1);
        due("its own, to the right", x.paste(2, 0, 2, 2, 4), 0);
        // 0 2 0 2 1 2: without 0 and 1, with 2.
        due("as they were", x.spoons(2), 1);
        due("as they were", x.surely(2), 4);
        row(x, 2, 1, 1, 0, 2, 1, 2);
        due("its own, to the left", x.paste(2, 2, 2, 0, 4), 0);
        due("as they were", x.surely(2), 4);
        due("as they were", x.spoons(2), 1);
    }

    private static void emptyField() {
        SpiteField x = on("field kinds 3 law 1 fades 0 odds 0;");
        promise = "16 to 64, nobody there";
        due("bare", x.bare(0), 0);
        due("growers", x.growers(0, 0), 0);
        due("haters", x.haters(0, 0), 0);
        due("kinds", x.kinds(0), 0);
        due("all", x.all(0), 0);
        due("happiest", x.happiest(0), NONE);
        due("fails", x.fails(), NONE);
        due("peace", x.peace(), 0);
        due("foe", x.foe(0), NONE);
        due("lasts", x.lasts(0), NONE);
        due("lean", x.lean(), 0);
        due("uncle", x.uncle(0), NONE);
        due("saints", x.saints(0), 0);
        due("treaties", x.treaties(), 0);
        due("best", x.best(), 0);
        due("order", x.order(0), -2);
        due("ways", x.ways(), 1);
        due("fewest", x.fewest(), 0);
        due("full", x.full(), 1);
        due("clear", x.clear(), 0);
        due("liars", x.liars(), 0);
        due("trades", x.trades(), 0);
        due("trade", x.trade(), NONE);
        due("judges", x.judges(), NONE);
        due("mean 0", x.mean(0), 0);
        due("mean 1", x.mean(1), 1);
        due("drawn 0", x.drawn(5, 0), 0);
        due("drawn 1", x.drawn(5, 1), 0);
        due("undo", x.undo(), -5);
        row(x, 0);
        spoonsDue(x, 0, 8, 0, 0, NONE, 8);
        row(x, 0, 0, 0);
        spoonsDue(x, 0, -2, -2, -2, -2, -2);
    }

    private static void sixPeople() {
        SpiteField x = on("field kinds 5 law 2 fades 0 odds 3;person hates 0 1 hates 1 2 hates 2 3 hates 3 4 hates 4 5;"
            + "person hates 4 1 loves 0 2;person loves 3 9;person hates 2 2 hates 3 3;person loves 1 1 hates 0 9;"
            + "person loves 4 4 hates 1 1;");
        promise = "62";
        due("the last, by the first", x.decides(5, 0), 0);
        due("chance above", x.chance(5, 0), 243);
        due("chance below", x.chance(5, 1), 100000);
        due("saint ahead", x.chance(1, 0), 1);
        promise = "63";
        // 0 by 1 3/10, 1 by 2 1, 2 by 3 9/100, 3 by 4 3/10, 4 by 5 3/10, 5 by 0 243/100000.
        due("mean above", x.mean(0), 199243);
        due("mean below", x.mean(1), 100000);
        promise = "64";
        due("likely 5", x.likely(5), 4);
        due("likely 1", x.likely(1), NONE);
        promise = "61";
        due("judges", x.judges(), NONE);
    }

    private static void readme() {
        promise = "README";
        SpiteField x = new SpiteField();
        x.feed(0x6669656c, 0x64206b69, 0x6e647320, 0x32206c61, 0x77203120);
        x.feed(0x66616465, 0x73203120, 0x6f646473, 0x20303b70, 0x6572736f);
        x.feed(0x6e206c6f, 0x76657320, 0x3020333b, 0x70657273, 0x6f6e2068);
        x.feed(0x61746573, 0x20302032, 0x3b000000, 0, 0);
        due("end", x.end(69), 69);
        due("field", x.field(), 3);
        due("grows", x.grows(0, 0), 0);
        due("has", x.has(1, 0), -2);
        x.hide(1, 0, 0, 1);
        due("grows", x.grows(0, 0), NONE);
    }

    private static void alone() {
        promise = "13 to 15, alone";
        int[][] wanted = {{NONE, 0, NONE, 0}, {NONE, 3, 0, 0}, {0, 2, 1, -3}, {NONE, 0, NONE, 0}};
        for (int law = 0; law < 4; law++) {
            SpiteField x = on("field kinds 2 law " + law + " fades 1 odds 5;person hates 1 3;");
            due("decides by " + law, x.decides(0, 0), wanted[law][0]);
            due("may by " + law, x.may(0, 0), wanted[law][1]);
            due("grows by " + law, x.grows(0, 0), wanted[law][2]);
            due("has by " + law, x.has(0, 0), wanted[law][3]);
            due("smell by " + law, x.smell(0, 0), 0);
            due("best by " + law, x.best(), wanted[law][3]);
            due("stay by " + law, x.stay(0), 0);
            due("clear by " + law, x.clear(), law == 0 || law == 3 ? 1 : 0);
            due("chance by " + law, x.chance(0, 0), law == 1 ? 0 : 1);
            due("chance by " + law, x.chance(0, 1), law == 2 ? 2 : 1);
            due("lie by " + law, x.lie(0), law == 2 ? 1 : NONE);
        }
    }
}
