/** The bounds that the document names of THE BOX as a TEXT: the last that is in, the first that is out (promises 1 to 4). */
public final class TextBoundsTest extends Check {
    private static final String TWO = "bar 2;bar 2;";
    private static final String RULE = "rule 0 0 to 1 if 1 at 0;";
    private static final String NINE = "bar 2;".repeat(9);

    public static void main(String[] args) {
        mostBytes();
        lines();
        orders();
        places();
        standing();
        bars();
        rules();
        facts();
        nested();
        wear();
        tokens();
        everyByte();
        numbers();
        firstFault();
        leastFault();
        fourthFault();
        tape();
        box();
        latestFault();
        end("TextBoundsTest");
    }

    /** It is THE BOX, with so many LINES and no FAULT. */
    private static NineBars good(String text, int lines) {
        NineBars x = new NineBars();
        due(text, () -> Boxes.tell(x, text), lines);
        due(text, () -> x.count(0), lines);
        due(text, () -> x.fault(0), 0);
        due(text, () -> x.fault(1), -1);
        return x;
    }

    /** It has this FAULT, at the sign |, and what was THE BOX ahead of it stays. */
    private static void bad(String marked, int fault) {
        int place = marked.indexOf('|');
        String text = marked.substring(0, place) + marked.substring(place + 1);
        NineBars x = Boxes.told("bar 3 at 1;bar 4;bar 2;");
        due(marked, () -> Boxes.tell(x, text), -10 - fault);
        due(marked, () -> x.fault(0), fault);
        due(marked, () -> x.fault(1), place);
        due(marked, () -> x.count(1), 3);
        due(marked, () -> x.count(5), 24);
        due(marked, () -> x.bar(0, 1), 1);
    }

    private static String filled(String text, int length) {
        return text + " ".repeat(length - text.length());
    }

    private static void mostBytes() {
        words("THE BOX is a TEXT of at most 900 bytes (without one: no BARS)");
        due(() -> new NineBars().count(1), 0);
        NineBars last = good(filled("bar 2;", 893) + "wear 9;", 2);
        due(() -> last.count(4), 9);
        good("wear1;".repeat(150), 150);
        NineBars less = new NineBars();
        Boxes.feed(less, filled("bar 2;", 893) + "wear 9;");
        due(() -> less.box(899), -12);
        due(() -> less.fault(1), 899);
        bad(filled("bar 2;", 899) + "|#", 1);
        bad(filled("bar 2", 900) + "|", 2);
        NineBars more = new NineBars();
        Boxes.feed(more, " ".repeat(900));
        refused(() -> more.box(901), ARGUMENT);
    }

    private static void lines() {
        words("{ LINE ; }");
        good("", 0);
        good(" ", 0);
        good("\n \n", 0);
        good("bar 2;", 1);
        good("wear 1;wear 2;", 2);
        bad("|;", 2);
        bad("bar 2;|;", 2);
        bad("bar 2|", 2);
        bad("bar 2;bar 2|", 2);
        bad("wear 1 |wear 2;", 2);
        words("LINE: bar N [ at N ] [ open N ] | rule N N to N if FACT { and FACT } | nested N | wear N");
        bad("|lock 2;", 2);
        bad("|2;", 2);
        bad("|at 1;", 2);
        bad("bar|;", 2);
        bad("bar|", 2);
        bad("bar |bar;", 2);
        bad("bar 2 |2;", 2);
        bad("bar 2 at|;", 2);
        bad("bar 2 at |open 1;", 2);
        bad("bar 2 at 1 |1;", 2);
        bad("bar 2 open|;", 2);
        bad("bar 2 open 1 |1;", 2);
        bad("bar 2 |if 1;", 2);
        bad("nested|;", 2);
        bad(TWO + "nested 2 |2;", 2);
        bad("wear|;", 2);
        bad("wear 1 |1;", 2);
        for (String ahead : new String[] {"rule ", "rule 0 ", "rule 0 0 ", "rule 0 0 to ", "rule 0 0 to 1 ", "rule 0 0 to 1 if ",
            "rule 0 0 to 1 if 1 ", "rule 0 0 to 1 if 1 at ", "rule 0 0 to 1 if 1 not ", "rule 0 0 to 1 if 1 at 0 and ",
            "rule 0 0 to 1 if 1 at 0 and 1 "}) {
            bad(TWO + ahead + "|;", 2);
            bad(TWO + ahead + "|", 2);
            bad(TWO + ahead + "|open", 2);
        }
        bad(TWO + "rule 0 0 to 1 if 1 at 0 |1 at 0;", 2);
        bad(TWO + "rule 0 0 to 1 if 1 at 0|", 2);
        bad(TWO + "rule 0 0 |1 if 1 at 0;", 2);
        bad(TWO + "rule 0 0 to 1 |1 at 0;", 2);
        words("FACT: N at N | N not N");
        good(TWO + "rule 0 0 to 1 if 1 at 0;", 3);
        good(TWO + "rule 0 0 to 1 if 1 not 0;", 3);
        bad(TWO + "rule 0 0 to 1 if 1 |is 0;", 2);
        bad(TWO + "rule 0 0 to 1 if 1 |0;", 2);
        bad(TWO + "rule 0 0 to 1 if 1 not |at 0;", 2);
        bad(TWO + "rule 0 0 to 1 if |at 0;", 2);
    }

    private static void orders() {
        words("bar N [ at N ] [ open N ]");
        good("bar 2;", 1);
        good("bar 2 at 1;", 1);
        good("bar 2 open 0;", 1);
        NineBars both = good("bar 3 at 1 open 0;", 1);
        due(() -> both.bar(0, 1), 1);
        due(() -> both.bar(0, 2), 0);
        bad("bar 2 open 1 |at 0;", 2);
        bad("bar 2 at 0 |at 0;", 2);
        bad("bar 2 open 0 |open 0;", 2);
        bad("bar 2 at 0 open 0 |at 0;", 2);
    }

    private static void places() {
        words("bar: it has 2 to 4 PLACES, 0, 1 ..");
        for (int n = 0; n <= 999; n++) {
            if (n >= 2 && n <= 4) {
                int many = n;
                NineBars x = good("bar " + n + ";", 1);
                due(() -> x.bar(0, 0), many);
                due(() -> x.count(5), many);
            } else if (n < 12 || n > 997 || n == 256 + 2) {
                bad("bar |" + n + ";", 3);
            }
        }
    }

    private static void standing() {
        words("at: where it stands (0 without)");
        for (int places = 2; places <= 4; places++) {
            String bar = "bar " + places;
            due(() -> Boxes.told(bar + ";").bar(0, 1), 0);
            for (int p = 0; p < places; p++) {
                int at = p;
                due(() -> Boxes.told(bar + " at " + at + ";").bar(0, 1), at);
            }
            bad(bar + " at |" + places + ";", 3);
            bad(bar + " at |999;", 3);
        }
        words("open: where it is OPEN (the last one without)");
        for (int places = 2; places <= 4; places++) {
            String bar = "bar " + places;
            int last = places - 1;
            due(() -> Boxes.told(bar + ";").bar(0, 2), last);
            due(() -> Boxes.told(bar + " at 1;").bar(0, 2), last);
            for (int p = 0; p < places; p++) {
                int open = p;
                due(() -> Boxes.told(bar + " open " + open + ";").bar(0, 2), open);
            }
            bad(bar + " open |" + places + ";", 3);
            bad(bar + " at 0 open |" + places + ";", 3);
        }
    }

    private static void bars() {
        words("BARS are numbered from 0 on as they come, 9 at most.");
        NineBars x = good("bar 3;bar 4;bar 2 at 1;" + "bar 2;".repeat(6), 9);
        due(() -> x.bar(0, 0), 3);
        due(() -> x.bar(1, 0), 4);
        due(() -> x.bar(2, 1), 1);
        due(() -> x.count(1), 9);
        due(() -> good("bar 4;".repeat(9), 9).count(5), 262144);
        bad(NINE + "|bar 2;", 4);
        NineBars wide = good(NINE + "rule 8 0 to 1 if 7 at 0;nested 9;wear 2;", 12);
        due(() -> wide.rule(0, 0), 8);
        due(() -> wide.count(3), 9);
    }

    private static void rules() {
        words("rule: of a BAR told ahead, from a PLACE to one beside it");
        bad("rule |0 0 to 1 if 1 at 0;", 3);
        bad(TWO + "rule |2 0 to 1 if 0 at 0;", 3);
        bad(TWO + "rule |2 0 to 1 if 0 at 0;bar 2;", 3);
        bad(TWO + "rule |999 0 to 1 if 0 at 0;", 3);
        due(() -> good(TWO + "rule 1 0 to 1 if 0 at 0;", 3).rule(0, 0), 1);
        for (int places = 2; places <= 4; places++) {
            for (int from = 0; from <= 5; from++) {
                for (int to = 0; to <= 5; to++) {
                    String bar = "bar 2;bar " + places + ";rule 1 ";
                    String rest = " if 0 at 0;";
                    if (from >= places) {
                        bad(bar + "|" + from + " to " + to + rest, 3);
                    } else if (to >= places || from - to != 1 && to - from != 1) {
                        bad(bar + from + " to |" + to + rest, 3);
                    } else {
                        good(bar + from + " to " + to + rest, 3);
                    }
                }
            }
        }
        words("24 RULES at most");
        due(() -> good(TWO + RULE.repeat(24), 26).count(2), 24);
        bad(TWO + RULE.repeat(24) + "|" + RULE, 4);
        bad(TWO + RULE.repeat(24) + "|rule", 4);
        bad(TWO + RULE.repeat(24) + "wear 3;|rule #", 4);
        NineBars other = good("bar 2;bar 3;" + RULE.repeat(23) + "rule 1 2 to 1 if 0 not 1;", 26);
        due(() -> other.rule(23, 1), 2);
    }

    private static void facts() {
        words("a FACT is of another BAR told ahead, and one of its PLACES");
        bad(TWO + "rule 0 0 to 1 if |0 at 0;", 3);
        bad(TWO + "rule 1 0 to 1 if |1 at 0;", 3);
        bad(TWO + "rule 0 0 to 1 if |2 at 0;", 3);
        bad(TWO + "rule 0 0 to 1 if |2 at 0;bar 2;", 3);
        bad("bar 2;rule 0 0 to 1 if |1 at 0;", 3);
        bad("bar 2;rule 0 0 to 1 if |0 at 0;", 3);
        bad(TWO + "rule 0 0 to 1 if 1 at 0 and |0 at 0;", 3);
        good("bar 2;bar 2;bar 2;rule 1 0 to 1 if 0 at 0 and 2 at 0;", 4);
        for (int places = 2; places <= 4; places++) {
            for (int p = 0; p <= 5; p++) {
                String head = "bar 2;bar " + places + ";rule 0 0 to 1 if 1 ";
                if (p < places) {
                    good(head + "at " + p + ";", 3);
                    good(head + "not " + p + ";", 3);
                } else {
                    bad(head + "at |" + p + ";", 3);
                    bad(head + "not |" + p + ";", 3);
                }
            }
        }
        words("4 FACTS at most");
        String and = " and 1 not 1";
        for (int more = 0; more <= 3; more++) {
            int many = 1 + more;
            NineBars x = good(TWO + "rule 0 0 to 1 if 1 at 0" + and.repeat(more) + ";", 3);
            due(() -> x.rule(0, 3), many);
        }
        bad(TWO + "rule 0 0 to 1 if 1 at 0" + and.repeat(3) + " |and 1 not 1;", 4);
        due(() -> good(TWO + ("rule 0 0 to 1 if 1 at 0" + and.repeat(3) + ";").repeat(2), 4).rule(1, 3), 4);
    }

    private static void nested() {
        words("nested: how many BARS, the first ones (2 to 9, told ahead; later ones strike).");
        for (int bars = 0; bars <= 9; bars++) {
            String told = "bar 2;".repeat(bars);
            for (int n = 0; n <= 11; n++) {
                if (n >= 2 && n <= bars) {
                    int many = n;
                    due(() -> Boxes.told(told + "nested " + many + ";").count(3), many);
                } else {
                    bad(told + "nested |" + n + ";", 3);
                }
            }
        }
        bad(NINE + "nested |10;", 3);
        bad(NINE + "nested |999;", 3);
        bad("bar 2;nested |2;bar 2;", 3);
        due(() -> Boxes.told(TWO).count(3), 0);
        due(() -> Boxes.told("bar 2;bar 2;bar 2;nested 3;nested 2;").count(3), 2);
        due(() -> Boxes.told("bar 2;bar 2;nested 2;bar 2;nested 3;").count(3), 3);
        due(() -> Boxes.told("bar 2;bar 2;nested 2;bar 2;").may(2, true), 0);
    }

    private static void wear() {
        words("wear: 0 to 99 (0 without; later ones strike).");
        due(() -> Boxes.told("bar 2;").count(4), 0);
        for (int n = 0; n <= 101; n++) {
            int many = n;
            if (n <= 99) {
                due(() -> Boxes.told("wear " + many + ";").count(4), many);
            } else {
                bad("wear |" + n + ";", 3);
            }
        }
        bad("wear |999;", 3);
        due(() -> Boxes.told("wear 3;wear 0;").count(4), 0);
        due(() -> Boxes.told("wear 99;bar 2;wear 7;").count(4), 7);
    }

    private static void tokens() {
        words("TOKENS, as long as they go, between them blanks (10, 32)");
        good("bar2at1open0;bar2;rule0 0to1if1at0and1not1;nested2;wear99;", 5);
        good("  bar\n\n2 \n at 1\nopen  0 ; ", 1);
        bad("|barat 2;", 2);
        bad("|car 2;", 2);
        bad("|year 2;", 2);
        bad("bar 2 |it 1;", 2);
        bad(TWO + "|mule 0 0 to 1 if 1 at 0;", 2);
        bad(TWO + "rule 0 0 |so 1 if 1 at 0;", 2);
        bad(TWO + "rule 0 0 to 1 |of 1 at 0;", 2);
        bad("|ba r 2;", 2);
        bad("|bars 2;", 2);
        bad("|b", 2);
        bad("bar 2 |a 1;", 2);
        bad("bar 2 |att 1;", 2);
        bad("bar 2 |atopen 1;", 2);
        bad("bar 2 at 1 |opens 1;", 2);
        bad("|nest 2;", 2);
        bad("|nesteds 2;", 2);
        bad("|wea 2;", 2);
        bad("|rul 0 0 to 1 if 1 at 0;", 2);
        bad(TWO + "rule 0 0 |too 1 if 1 at 0;", 2);
        bad(TWO + "rule 0 0 to 1 |i 1 at 0;", 2);
        bad(TWO + "rule 0 0 to 1 if 1 |nots 0;", 2);
        bad(TWO + "rule 0 0 to 1 if 1 at 0 |ands 1 at 0;", 2);
        bad("bar 2 |2;", 2);
        bad("bar |22;", 3);
        due(() -> good("wear 0;wear 1 ;wear 12\n;", 3).count(4), 12);
    }

    private static void everyByte() {
        words("words (small letters), N (1 to 3 digits), the sign ;.");
        for (int c = 0; c < 256; c++) {
            char sign = (char) c;
            if (c == 10 || c == 32) {
                good("bar 2;" + sign + "bar 2;", 2);
                good("bar" + sign + "2;", 1);
            } else if (c >= 'a' && c <= 'z' || c >= '0' && c <= '9' || c == ';') {
                bad("bar 2;|" + sign + " bar 2;", 2);
            } else {
                bad("bar 2;|" + sign + "bar 2;", 1);
                bad("bar|" + sign + "2;", 1);
                bad("bar 2|" + sign + ";", 1);
                bad("|" + sign, 1);
            }
        }
        bad("|a", 2);
        bad("|z", 2);
        bad("|`", 1);
        bad("|{", 1);
        bad("bar |/;", 1);
        bad("bar |:;", 1);
        bad("bar 2|:", 1);
        bad("bar 2|<", 1);
        bad("bar 2|a;", 2);
    }

    private static void numbers() {
        words("N (1 to 3 digits)");
        due(() -> good("bar 2;", 1).bar(0, 0), 2);
        due(() -> good("bar 02;", 1).bar(0, 0), 2);
        due(() -> good("bar 002;", 1).bar(0, 0), 2);
        due(() -> good("wear 099;", 1).count(4), 99);
        words("1 no TOKEN begins so (4 digits and more: at their first).");
        bad("bar |0002;", 1);
        bad("bar |00002;", 1);
        bad("bar |2000;", 1);
        bad("bar |" + "1".repeat(40) + ";", 1);
        bad("wear |4294967297;", 1);
        bad("wear |999;", 3);
        bad("wear |1000;", 1);
        bad("|1000", 1);
        bad("bar |2222", 1);
    }

    private static void firstFault() {
        words("FAULTS, the first along the text");
        bad("bar |5 #", 3);
        bad("bar |# 5", 1);
        bad("bar |; #", 2);
        bad("bar |5", 3);
        bad("bar |5 at 9;", 3);
        bad("bar |5000 at 9;", 1);
        bad("bar 2;|at 5 #", 2);
        bad("|ba#", 2);
        bad("|baR 2;", 2);
        bad("|Bar 2;", 1);
        bad(NINE + "|bar 9;", 4);
        bad(NINE + "|bar #", 4);
        bad(NINE + "wear |100;bar 2;", 3);
        bad(TWO + "rule |2 5 to 9 if 9 at 9;", 3);
        bad(TWO + "rule 0 |2 to 9 if 9 at 9;", 3);
        bad(TWO + "rule 0 0 to |2 if 9 at 9;", 3);
        bad(TWO + "rule 0 0 to |0 of 9 at 9;", 3);
        bad(TWO + "rule 0 0 to 1 if |9 at 9;", 3);
        bad(TWO + "rule 0 0 to 1 if 1 at |9", 3);
        bad("nested |2;bar 7;", 3);
        words("2 it can't stand there (the end: the text's length).");
        bad("bar|", 2);
        bad("bar  |", 2);
        bad("bar 2\n |", 2);
        bad("bar 2 at|", 2);
        bad("bar 2 at 1 open|", 2);
        bad(TWO + "rule|", 2);
        bad(TWO + "nested|", 2);
        bad("wear \n|", 2);
        bad("wear 1|", 2);
        words("3 N is out of its bounds.");
        bad("bar |1;", 3);
        bad("bar |5;", 3);
    }

    private static void leastFault() {
        words("of one TOKEN the least kind");
        // begins no TOKEN, and can't stand there
        bad("bar 2 |#;", 1);
        bad("bar 2 |2000;", 1);
        bad("|#", 1);
        // begins no TOKEN, and would be out of its bounds
        bad("bar |2000;", 1);
        bad("wear |0100;", 1);
        // can't stand there, and would be out of any bounds
        bad("bar 2 |999;", 2);
        bad("|999;", 2);
        // can't stand there, and would begin a 10th bar, a 25th rule, be the and ahead of a 5th FACT
        bad("bar 2;".repeat(8) + "bar 2 |bar 2;", 2);
        bad(TWO + RULE.repeat(23) + "rule 0 0 to 1 if 1 at 0 |rule 0 0 to 1 if 1 at 0;", 2);
        bad(TWO + "rule 0 0 to 1 if 1 at 0 and 1 at 0 and 1 at 0 and 1 |and 1 at 0;", 2);
        bad(TWO + "rule 0 0 to 1 if 1 at 0 and 1 at 0 and 1 at 0 and 1 at |and 1 at 0;", 2);
        bad(TWO + "rule 0 0 to 1 if 1 at 0 and 1 at 0 and 1 at 0 and |and 1 at 0;", 2);
    }

    private static void fourthFault() {
        words("4 the first TOKEN of a 10th bar, a 25th rule; the and ahead of a 5th FACT.");
        bad(NINE + "|bar", 4);
        bad(NINE + "|bar 5;", 4);
        bad(NINE + "|bar;", 4);
        bad(NINE + "wear 1;nested 9;|bar 2;", 4);
        bad("wear 1;" + NINE + "\n |bar 2;bar 2;", 4);
        bad(TWO + RULE.repeat(24) + "|rule 9", 4);
        bad(TWO + RULE.repeat(24) + "bar 2;|rule;", 4);
        bad(TWO + "rule 0 0 to 1 if 1 at 0 and 1 at 0 and 1 at 0 and 1 at 0 |and", 4);
        bad(TWO + "rule 0 0 to 1 if 1 at 0 and 1 at 0 and 1 at 0 and 1 at 0 |and 0 at 9;", 4);
        bad(TWO + "rule 0 0 to 1 if 1 at 0 and 1 at 0 and 1 at 0 and 1 at 0 |and and", 4);
        bad(TWO + RULE.repeat(23) + "rule 0 0 to 1 if 1 at 0 and 1 at 0 and 1 at 0 and 1 at 0 |and 1 at 0;", 4);
    }

    private static void tape() {
        words("an empty tape.");
        NineBars x = new NineBars();
        due(() -> x.count(7), 0);
        refused(() -> x.box(1), ARGUMENT);
        words("Twenty bytes come behind those on the tape, the highest of each int first: how many it has");
        for (int many = 20; many <= 880; many += 20) {
            int had = many;
            due(() -> x.feed(0x20202020, 0x20202020, 0x20202020, 0x20202020, 0x20202020), had);
        }
        words("NONE, and nothing changes, if there would be more than 900.");
        due(() -> x.feed(0x20202020, 0x20202020, 0x20202020, 0x62617220, 0x323b2020), 900);
        due(() -> x.feed(0, 0, 0, 0, 0), -1);
        due(() -> x.feed(-1, -1, -1, -1, -1), -1);
        due(() -> x.count(7), 900);
        due(() -> x.box(900), 1);
        due(() -> x.bar(0, 0), 2);
        due(() -> x.feed(0, 0, 0, 0, 0), 20);
        words("the highest of each int first");
        NineBars y = new NineBars();
        y.feed(0x62617220, 0x32203b77, 0x65617220, 0x31323b62, 0x6172333b);
        due(() -> y.box(20), 3);
        due(() -> y.count(4), 12);
        due(() -> y.bar(1, 0), 3);
        NineBars high = new NineBars();
        high.feed(0x20202080, 0, 0, 0, 0);
        due(() -> high.box(4), -11);
        due(() -> high.fault(1), 3);
        high.feed(0xE2202020, 0, 0, 0, 0);
        due(() -> high.box(4), -11);
        due(() -> high.fault(1), 0);
    }

    private static void box() {
        words("The first n bytes of the tape (which is empty then) are THE BOX: how many LINES");
        NineBars x = new NineBars();
        Boxes.feed(x, "bar 2;bar 3;bar 4;");
        due(() -> x.box(12), 2);
        due(() -> x.count(7), 0);
        due(() -> x.bar(1, 0), 3);
        refused(() -> x.box(1), ARGUMENT);
        Boxes.feed(x, "bar 4;");
        due(() -> x.box(6), 1);
        due(() -> x.bar(0, 0), 4);
        due(() -> x.count(1), 1);
        due(() -> x.box(0), 0);
        due(() -> x.count(1), 0);
        due(() -> x.count(0), 0);
        words("-10 less the FAULT (all stays).");
        NineBars y = Boxes.told("bar 3 at 1;bar 2;rule 0 1 to 2 if 1 at 1;nested 2;wear 4;");
        y.step(0, false);
        due(() -> Boxes.tell(y, "#"), -11);
        due(() -> Boxes.tell(y, "bar 2;wear 7;bar"), -12);
        due(() -> Boxes.tell(y, "bar 4;bar 4;bar 4;nested 3;wear 9;bar 5;"), -13);
        due(() -> Boxes.tell(y, NINE + "bar 2;"), -14);
        long[] want = {5, 2, 1, 2, 4, 6, 1, 0};
        for (int i = 0; i < want.length; i++) {
            int what = i;
            due(() -> y.count(what), want[what]);
        }
        due(() -> y.bar(0, 3), 1);
        due(y::stand, 0);
        due(() -> is(y.fromStart(1)), 1);
        words("n is below 0 or above what it has.");
        for (int has : new int[] {0, 20, 40, 900}) {
            NineBars z = new NineBars();
            Boxes.feed(z, " ".repeat(has));
            refused(() -> z.box(-1), ARGUMENT);
            refused(() -> z.box(Integer.MIN_VALUE), ARGUMENT);
            refused(() -> z.box(has + 1), ARGUMENT);
            refused(() -> z.box(Integer.MAX_VALUE), ARGUMENT);
            due(() -> z.count(7), has);
            due(() -> z.box(has), 0);
            refused(() -> z.box(1), ARGUMENT);
        }
        NineBars none = new NineBars();
        Boxes.feed(none, "bar 2;");
        due(() -> none.box(0), 0);
        due(() -> none.count(7), 0);
        due(() -> none.count(1), 0);
    }

    private static void latestFault() {
        words("Of the latest box() that threw nothing, what 0: the FAULT (0 without, and at first), 1: its place (NONE without). NONE for others.");
        NineBars x = new NineBars();
        due(() -> x.fault(0), 0);
        due(() -> x.fault(1), -1);
        for (int what : new int[] {-1, 2, 3, Integer.MIN_VALUE, Integer.MAX_VALUE}) {
            due(() -> x.fault(what), -1);
        }
        Boxes.tell(x, "#");
        due(() -> x.fault(0), 1);
        due(() -> x.fault(1), 0);
        due(() -> x.fault(-1), -1);
        due(() -> x.fault(2), -1);
        refused(() -> x.box(1), ARGUMENT);
        due(() -> x.fault(0), 1);
        due(() -> x.fault(1), 0);
        Boxes.tell(x, "bar 2;bar");
        due(() -> x.fault(0), 2);
        due(() -> x.fault(1), 9);
        Boxes.tell(x, "bar 2;");
        refused(() -> x.box(-1), ARGUMENT);
        due(() -> x.fault(0), 0);
        due(() -> x.fault(1), -1);
        Boxes.tell(x, "bar 7;");
        x.box(0);
        due(() -> x.fault(0), 0);
        due(() -> x.fault(1), -1);
    }
}
