/** The boundary cases of the promises 13 to 16: THE TEXT, THE RULE, and its value. */
final class RuleBoundaries extends Sentences {
    @Says(promise = 13, value = "Four signs come behind THE TEXT, of v the highest byte first: how many it has.")
    void highestByteFirst() {
        FollowTheSun x = two();
        piece(x, 0, 1, 0);
        due("1-23", x.sign('1' << 24 | '-' << 16 | '2' << 8 | '3'), 4);
        due("+456", x.sign('+' << 24 | '4' << 16 | '5' << 8 | '6'), 8);
        due("rule", x.rule(), 0);
        due("1-23+456", x.value(0, 0), 434);
        // The highest bit is no number's sign here: it is of a sign above 127, which can't stand.
        due("a sign of 255", x.sign('1' << 24 | 255 << 16), 4);
        due("at 1", x.rule(), -2);
        due("all bits", x.sign(-1), 4);
        due("at 0", x.rule(), -1);
    }

    @Says(promise = 13, value = "Refused: there would be more than 60.")
    void sixtySigns() {
        FollowTheSun x = new FollowTheSun();
        for (int i = 1; i <= 15; i++) {
            due("signs", x.sign(i), 4 * i);
        }
        due("more than 60", x.sign(0), NONE);
        due("count", x.count(9), 60);
        for (int n = 59; n >= 57; n--) {
            due("end", x.end(n), true);
            due("from " + n, x.sign(0), NONE);
            due("count", x.count(9), n);
        }
        due("end", x.end(56), true);
        due("from 56", x.sign(0), 60);
    }

    @Says(promise = 14, value = "THE TEXT has its first n signs alone: true; false if it has not so many, or n is below 0.")
    void firstSigns() {
        FollowTheSun x = two();
        piece(x, 0, 1, 0);
        due("0 of 0", x.end(0), true);
        due("1 of 0", x.end(1), false);
        due("-1 of 0", x.end(-1), false);
        write(x, "12+345");
        for (int n : new int[] {7, 60, -1, Integer.MIN_VALUE, Integer.MAX_VALUE}) {
            due(n + " of 6", x.end(n), false);
            due("count", x.count(9), 6);
        }
        due("6 of 6", x.end(6), true);
        due("5 of 6", x.end(5), true);
        due("6 of 5", x.end(6), false);
        due("rule", x.rule(), 0);
        due("12+34", x.value(0, 0), 46);
    }

    @Says("THE RULE is a text of at most 40 signs (at first none; an empty text: none).")
    void noRule() {
        FollowTheSun x = two();
        piece(x, 0, 9, 0);
        dueThrow("at first", () -> x.value(0, 0));
        rule(x, "7");
        due("then", x.value(0, 0), 7);
        due("an empty text", x.rule(), 0);
        dueThrow("none", () -> x.value(0, 0));
        x.begin(9);
        due("it stays", x.ends(), 34);
    }

    @Says("THE RULE is a text of at most 40 signs (at first none; an empty text: none).")
    void fortySigns() {
        FollowTheSun x = two();
        piece(x, 0, 9, 0);
        String forty = "!".repeat(39) + "k";
        due("40", rule(x, forty), 0);
        due("39 times not", x.value(0, 1), 1);
        due("41", rule(x, "!" + forty), -41);
        due("as it was", x.value(0, 1), 1);
        String numbers = "1+".repeat(18) + "7*99";
        due("40 of many codes", rule(x, numbers), 0);
        due("their sum", x.value(0, 1), 18 + 7 * 99);
    }

    @Says("< > = (two; 1 or 0; not one behind the other)")
    void comparisons() {
        FollowTheSun x = two();
        piece(x, 0, 9, 0);
        String[] bad = {"1<2<3", "1<2>3", "1=2=3", "1<2+3>4", "1<2*3=4", "(1<2=3)", "1&2<3<4", "1<!2<3"};
        int[] place = {3, 3, 3, 5, 5, 4, 5, 4};
        for (int i = 0; i < bad.length; i++) {
            due(bad[i], rule(x, bad[i]), -1 - place[i]);
        }
        String[] good = {"1<2", "2<1", "2<2", "2>1", "1>2", "2>2", "2=2", "2=1", "(1<2)<3", "1<(2<3)",
            "1<2&2<3", "1>2|2<3", "(1<2)=(3>2)", "3=1+2", "1+2=3", "1<2|(1<2)<2&3>2"};
        int[] value = {1, 0, 0, 1, 0, 0, 1, 0, 1, 0, 1, 1, 1, 1, 1, 1};
        for (int i = 0; i < good.length; i++) {
            due(good[i], rule(x, good[i]), 0);
            due(good[i], x.value(0, 0), value[i]);
        }
    }

    @Says("then + - (from the left), then * (from the left), then ! and - ahead of a thing (any many)")
    void binding() {
        FollowTheSun x = two();
        piece(x, 0, 9, 0);
        String[] texts = {"1|0&0", "0&0|1", "2&3<2", "2<1+2", "1+2*3", "2*3+1", "9-5-3", "9-5+3", "2*3*4", "!0*5",
            "!0+5", "!2<0", "-2*-3", "2--2", "2---2", "!!5", "!-0", "-!0", "!!!0", "-(-(-(4)))", "!(1<2)", "-1<0"};
        int[] values = {1, 1, 0, 1, 7, 7, 1, 7, 24, 5,
            6, 0, 6, 4, 0, 1, 1, -1, 1, -4, 0, 1};
        for (int i = 0; i < texts.length; i++) {
            due(texts[i], rule(x, texts[i]), 0);
            due(texts[i], x.value(0, 0), values[i]);
        }
    }

    @Says("a NUMBER of 1 to 3 digits")
    void digits() {
        FollowTheSun x = two();
        piece(x, 0, 9, 0);
        String[] good = {"0", "7", "00", "42", "000", "007", "999", "1+999"};
        int[] values = {0, 7, 0, 42, 0, 7, 999, 1000};
        for (int i = 0; i < good.length; i++) {
            due(good[i], rule(x, good[i]), 0);
            due(good[i], x.value(0, 0), values[i]);
        }
        String[] bad = {"1234", "0000", "1+9999", "1k", "k1", "12(3)", "(1)2", "1 2"};
        int[] place = {3, 3, 5, 1, 1, 2, 3, 1};
        for (int i = 0; i < bad.length; i++) {
            due(bad[i], rule(x, bad[i]), -1 - place[i]);
        }
    }

    @Says("an EXPRESSION in ( ) (at most 5 in one another)")
    void brackets() {
        FollowTheSun x = two();
        piece(x, 0, 9, 0);
        due("5", rule(x, "(((((7)))))"), 0);
        due("its value", x.value(0, 0), 7);
        due("6", rule(x, "((((((7))))))"), -6);
        due("6 behind others", rule(x, "(1)+(((((("), -10);
        due("5, then 5", rule(x, "(((((1)))))+(((((2)))))"), 0);
        due("their sum", x.value(0, 0), 3);
        due("six side by side", rule(x, "(1)+(1)+(1)+(1)+(1)+(1)"), 0);
        due("their sum", x.value(0, 0), 6);
        due("5, one closed, one more", rule(x, "((((((1"), -6);
        due("within", rule(x, "((((1+(2))+(3))))"), 0);
    }

    @Says("r in how many HOURS it is so next (0 .. 98, else 99)")
    void nextWork() {
        FollowTheSun x = new FollowTheSun();
        plain(x, 0, 1);
        plain(x, 5, 1);
        piece(x, 0, 9, 0);
        rule(x, "r");
        // At work at 5 on day 0, then not till day 5: hour 125.
        for (int day = 1; day <= 4; day++) {
            x.feast(1, day, true);
        }
        int[] begin = {3, 4, 5, 24, 25, 26, 27, 123, 124, 125};
        int[] due = {1, 0, 99, 99, 99, 98, 97, 1, 0, 23};
        for (int i = 0; i < begin.length; i++) {
            x.begin(begin[i]);
            due("from the hour behind " + begin[i], x.value(0, 1), due[i]);
        }
    }

    @Says("r in how many HOURS it is so next (0 .. 98, else 99)")
    void nextWorkBehindTheLastHour() {
        FollowTheSun x = new FollowTheSun();
        plain(x, 0, 1);
        plain(x, 23, 1);
        piece(x, 0, 9, 0);
        rule(x, "r");
        x.begin(LAST);
        due("at 2400", x.value(0, 0), 0);
        due("at 2423", x.value(0, 1), 23);
    }

    @Says("As ints; | & ! give 1 or 0.")
    void asInts() {
        FollowTheSun x = two();
        piece(x, 0, 9, 0);
        rule(x, "999*999*999");
        due("within", x.value(0, 0), 997002999);
        rule(x, "999*999*999*3");
        due("it comes round", x.value(0, 0), (int) (997002999L * 3));
        rule(x, "999*999*999+999*999*999+999*999*999");
        due("sums come round", x.value(0, 0), (int) (997002999L * 3));
        rule(x, "5&7");
        due("&", x.value(0, 0), 1);
        rule(x, "5&0");
        due("& of 0", x.value(0, 0), 0);
        rule(x, "4|0");
        due("|", x.value(0, 0), 1);
        rule(x, "0|0");
        due("| of 0", x.value(0, 0), 0);
        rule(x, "-5&-7");
        due("& below 0", x.value(0, 0), 1);
        rule(x, "!-5");
        due("! below 0", x.value(0, 0), 0);
    }

    @Says("k KNOWN, l LOST (0 of its own), o OVERLAP")
    void ofItsOwn() {
        FollowTheSun x = two();
        x.piece(6, 9, 0, 0, NONE);
        rule(x, "l");
        due("LOST of its own", x.value(0, 0), 0);
        due("LOST of another", x.value(0, 1), 6);
        rule(x, "k");
        due("KNOWN of its own", x.value(0, 0), 9);
        rule(x, "o");
        due("OVERLAP of its own", x.value(0, 0), 8);
        rule(x, "q");
        due("it asks nowhere", x.value(0, 0), 0);
        due("it asks nowhere", x.value(0, 1), 0);
    }

    @Says(promise = 15, value = "-1 - p: the sign at p can't stand there")
    void signsThatCannotStand() {
        FollowTheSun x = two();
        String[] bad = {"x", "K", " ", "~", "a", ")", "*1", "+1", "<1", "=1", ">1", "&1", "|1", "1~", "1!", "1(", "k!k",
            "1)", "(1))", "()", "(+", "1+*2", "1**2", "1||2", "1&&2", "1==2", "1<>2", "1<=2", "1+)", "(1*)", "kk", "k(k)"};
        int[] place = {0, 0, 0, 0, 0, 0, 0, 0, 0, 0, 0, 0, 0, 1, 1, 1, 1,
            1, 3, 1, 1, 2, 2, 2, 2, 2, 2, 2, 2, 3, 1, 1};
        for (int i = 0; i < bad.length; i++) {
            due(bad[i], rule(x, bad[i]), -1 - place[i]);
            due("THE TEXT is empty", x.count(9), 0);
        }
        for (int c = 0; c < 256; c++) {
            boolean begins = "klowrcsbqpfn0123456789(!-".indexOf(c) >= 0;
            boolean whole = begins && c != '(' && c != '!' && c != '-';
            FollowTheSun y = new FollowTheSun();
            y.sign(c << 24);
            y.end(1);
            due("sign " + c + " alone", y.rule(), whole ? 0 : begins ? -2 : -1);
        }
    }

    @Says(promise = 15, value = "its end, if it ends too early")
    void endsTooEarly() {
        FollowTheSun x = two();
        String[] bad = {"(", "!", "-", "1+", "1<", "(1", "((1)", "1+(2", "(1+", "1|!", "k-"};
        for (String s : bad) {
            due(s, rule(x, s), -1 - s.length());
        }
        String open = "(" + "1+".repeat(19) + "1";
        due("40 signs", open.length(), 40);
        due("40 signs, open", rule(x, open), -41);
        due("40 signs, a thing is due", rule(x, "1+".repeat(20)), -41);
    }

    @Says(promise = 15, value = "40, if it has more and the first 40 could go on or end")
    void moreThanForty() {
        FollowTheSun x = two();
        String ends = "1+".repeat(19) + "12";
        String goesOn = "1+".repeat(20);
        String open = "(" + "1+".repeat(19) + "1";
        due("they could end", rule(x, ends + "3"), -41);
        due("they could go on", rule(x, goesOn + "3"), -41);
        due("they are open", rule(x, open + ")"), -41);
        due("what is behind has no say", rule(x, ends + "x"), -41);
        due("60 signs", rule(x, ends + "+1".repeat(10)), -41);
        due("the fortieth can't stand", rule(x, "1+".repeat(19) + "1x3"), -40);
        due("the first can't stand", rule(x, "x" + ends), -1);
        due("the fortieth is a fourth digit", rule(x, "1+".repeat(18) + "123456"), -40);
        due("40 themselves", rule(x, ends), 0);
    }

    @Says(promise = 15, value = "THE TEXT is THE RULE: 0.")
    void refusedKeepsTheRule() {
        FollowTheSun x = two();
        piece(x, 0, 9, 0);
        rule(x, "n+3");
        due("THE TEXT is empty", x.count(9), 0);
        rule(x, "n+4+");
        due("as it was", x.value(0, 1), 4);
        due("THE TEXT is empty", x.count(9), 0);
        rule(x, "5*(");
        due("as it was", x.value(0, 1), 4);
    }

    @Says(promise = 16, value = "as if NOW was the HOUR that goes by")
    void fromTheNextHour() {
        FollowTheSun x = two();
        piece(x, 0, 9, 0);
        rule(x, "w");
        x.begin(8);
        due("9", x.value(0, 0), 1);
        x.begin(7);
        due("8", x.value(0, 0), 0);
        x.begin(16);
        due("17", x.value(0, 0), 0);
        FollowTheSun y = new FollowTheSun();
        plain(y, 0, 1);
        plain(y, 0, 16);
        y.feast(0, 1, true);
        piece(y, 0, 9, 1);
        rule(y, "o*100+l");
        y.begin(0);
        due("apart in 1 .. 24", y.value(0, 0), 6);
        y.begin(24);
        due("not apart in 25 .. 48", y.value(0, 0), 104);
        y.begin(LAST);
        due("behind the last hour", y.value(0, 0), 104);
    }

    @Says(promise = 16, value = "NoSuchElementException: none such, there is no RULE.")
    void noneSuch() {
        FollowTheSun x = two();
        dueThrow("no piece, no rule", () -> x.value(0, 0));
        rule(x, "1");
        dueThrow("no piece", () -> x.value(0, 0));
        piece(x, 0, 1, 0);
        due("1", x.value(0, 1), 1);
        for (int bad : new int[] {-1, 2, Integer.MIN_VALUE, Integer.MAX_VALUE}) {
            dueThrow("piece " + bad, () -> x.value(bad, 0));
            dueThrow("office " + bad, () -> x.value(0, bad));
        }
        dueThrow("piece 1", () -> x.value(1, 0));
        x.begin(9);
        x.go(1);
        due("of a piece that is DONE", x.value(0, 0), 1);
        x.rule();
        dueThrow("no rule", () -> x.value(0, 0));
    }

    @Says(promise = 16, value = "The value of THE RULE for a PIECE (from where it is now) and an OFFICE")
    void fromWhereItIs() {
        FollowTheSun x = two();
        piece(x, 0, 9, 0);
        rule(x, "s*100+b*10+(k=9)");
        due("at first", x.value(0, 0), 111);
        due("at first", x.value(0, 1), 0);
        x.hand(0, 1);
        due("handed", x.value(0, 0), 10);
        due("handed", x.value(0, 1), 101);
        rule(x, "f");
        due("LEFT", x.value(0, 0), 15);
    }
}
