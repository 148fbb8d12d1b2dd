/** Promises 7 to 9: the law, hunts and diaries as texts, with all their faults. */
public final class TextsTest {
    private TextsTest() {
    }

    private static void law(String text, int want) {
        Due.is("law " + text, want, Due.law(new WolfKnight(), text));
    }

    private static void hunts(String text, int want) {
        Due.is("hunts " + text, want, Due.hunts(new WolfKnight(), 0, text));
    }

    /** The days of hunts as a row of h and dots. */
    private static void huntsAre(String text, String days) {
        WolfKnight x = new WolfKnight();
        Due.is("hunts " + text, days.length(), Due.hunts(x, 0, text));
        for (int t = 0; t < 2 * days.length() + 1; t++) {
            Due.is("hunts " + text + " at " + t, days.charAt(t % days.length()) == 'h' ? 1 : 0, x.hunted(0, t));
        }
    }

    /** A diary of a forest 0, 1, 2, 11 with man a at 0, wolf b at 1, dead c, and no others. */
    private static WolfKnight people() {
        WolfKnight x = Due.row(3);
        x.place(11);
        x.knight(0, 0, 0);
        x.knight(1, 1, 127);
        x.knight(2, 2, 127);
        Due.hunts(x, 2, "h");
        x.days(1);
        return x;
    }

    private static void diary(String text, int want) {
        WolfKnight x = people();
        Due.is("diary " + text, want, Due.diary(x, text));
        if (want < 0) {
            Due.is("nothing is done by " + text, 0, x.knightIs(0, 0) + x.knightIs(0, 2));
            Due.is("nothing is done by " + text, 3, x.knightIs(1, 0) + x.knightIs(1, 2) + x.knightIs(1, 3));
        }
        Due.is("the tape is empty", 0, x.count(7));
    }

    private static void promise7LawSizes() {
        WolfKnight x = new WolfKnight();
        Due.is("no bytes", -1, x.law(1));
        Due.feed(x, "s(k=0);e1(k=0)");
        Due.is("too small", -1, x.law(0));
        Due.is("too small", -1, x.law(-1));
        Due.is("not so many", -1, x.law(21));
        Due.is("the tape stays", 20, x.count(7));
        Due.is("the first bytes of it", 1, x.law(6));
        Due.is("the tape is empty", 0, x.count(7));
        Due.is("rules", 1, x.count(6));
        Due.is("two rules", 2, Due.law(x, "h9(k=0);e1(k=0)"));
        Due.is("a fault", -1000, Due.law(x, "x"));
        Due.is("the one before stays", 2, x.count(6));
        Due.is("the tape is empty", 0, x.count(7));
        String sum = "k" + "+k".repeat(115);
        Due.is("240 bytes", 1, Due.law(x, "e" + sum + "(k=k+00)"));
        Due.is("in place of the one before", 1, x.count(6));
        for (int i = 0; i < 13; i++) {
            x.feed(0, 0, 0, 0, 0);
        }
        Due.is("241 bytes", -1, x.law(241));
        Due.is("the tape stays", 260, x.count(7));
    }

    private static void promise7LongLaws() {
        WolfKnight x = Due.row(1);
        x.knight(1, 0, 0);
        for (int i = 1; i < 9; i++) {
            String text = "e" + i + "+k-k".repeat(55) + "(k=1|k=" + i + ")";
            Due.is("a long law", 1, Due.law(x, text));
            Due.is("a long law", i, x.likes(1, 0));
        }
        Due.is("at its end", -1239, Due.law(x, "e" + "k+".repeat(119)));
        Due.is("a long law stays", 8, x.likes(1, 0));
        String rules = "e0(k<1);".repeat(15) + "e3(!(!k=1|f=1)&!k=1|o+f=0)";
        Due.is("sixteen rules", 16, Due.law(x, rules));
        Due.is("the last of them", 3, x.likes(1, 0));
        String deep = "e[1+1*[2+2*[3+3*[4+4*[5+5*[6+6*7]]]]]]([1+1*[2+2*[3+3*[4+4*[5]]]]]=153)";
        Due.is("deep ones", 1, Due.law(x, deep));
        Due.is("1 + 2 + 2 (3 + 3 (4 + 4 (5 + 5 * 48)))", 5913, x.likes(1, 0));
    }

    private static void promise7LawWords() {
        law("e0(k=0)", 1);
        law("h99999(p<n)", 1);
        law("s(j>f)", 1);
        law("eo+w-t*1/2%3(o=w&t<k|j>1)", 1);
        law("e[k](!k=0)", 1);
        law("e1(k=0);h2((k=0));s(!(k=0)|!!k=0)", 3);
        law("s(([k+1]=2)&([1]<[2]))", 1);
        law("e00000(0=00000)", 1);
    }

    private static void promise7Fault1() {
        law("x", -1000);
        law(";", -1000);
        law("(k=0)", -1000);
        law("e", -1001);
        law("e(k=0)", -1001);
        law("s1(k=0)", -1001);
        law("s", -1001);
        law("e-1(k=0)", -1001);
        law("e1", -1002);
        law("e1k(k=0)", -1002);
        law("e1]", -1002);
        law("e1=1(k=0)", -1002);
        law("e1&1(k=0)", -1002);
        law("e[1)", -1003);
        law("e[1;", -1003);
        law("e[1(", -1003);
        law("e[1=1]", -1003);
        law("e1+(k=0)", -1003);
        law("ek+", -1003);
        law("ekk(k=0)", -1002);
        law("ek1(k=0)", -1002);
        law("e1()", -1003);
        law("s(k)", -1003);
        law("s(k;", -1003);
        law("s(k(", -1003);
        law("s(k=0=0)", -1005);
        law("s(k=)", -1004);
        law("s(k=(k))", -1004);
        law("s(k=!k)", -1004);
        law("s((k)=0)", -1004);
        law("s(k+k&", -1005);
        law("s(k=0", -1005);
        law("s(k=0]", -1005);
        law("s(k=0;", -1005);
        law("s(k=0&)", -1006);
        law("s(k=0|", -1006);
        law("s(k=0))", -1006);
        law("s(k=0)&", -1006);
        law("s(k=0),", -1006);
        law("s(k=0);", -1007);
        law("s(k=0);;", -1007);
        law("s(k=0);x", -1007);
        law("s(!)", -1003);
        law("s(!", -1003);
        law("s(k=0!k=0)", -1005);
        law("s((k=0)", -1007);
        law("s((k=0)=0)", -1007);
        law("s((k=0)k)", -1007);
        law("s([k=0])", -1004);
        law("s(k =0)", -1003);
        law("s(k=\u00ff)", -1004);
        law("s(k=\u0000)", -1004);
        law("S(k=0)", -1000);
        law("ee(k=0)", -1001);
        law("s(k=0)\u0000", -1006);
        law("\u0000", -1000);
    }

    private static void promise7OtherFaults() {
        law("e12345(k=0)", 1);
        law("e123456(k=0)", -2006);
        law("e1234567", -2006);
        law("s(k=000000)", -2009);
        law("e12345x", -1006);
        String rule = "s(k=0);";
        law(rule.repeat(15) + "s(k=0)", 16);
        law(rule.repeat(16) + "s(k=0)", -4112);
        law(rule.repeat(16) + "e", -4112);
        law(rule.repeat(16) + "h?", -4112);
        law(rule.repeat(16) + "x", -1112);
        law(rule.repeat(16), -1112);
        law("e[[[[[[1]]]]]](k=0)", 1);
        law("e[[[[[[[1", -5007);
        law("e[[[[[[[", -5007);
        law("e[[[[[[(", -1007);
        law("s((((((k=0))))))", 1);
        law("s(((((((", -5007);
        law("s(((((([", -5007);
        law("s((((((!", -5007);
        law("s(!!!!!k=0)", 1);
        law("s(!!!!!!k=0)", -5007);
        law("s(!!!!!(k=0))", -5007);
        law("s(!!!!![k]=0)", -5007);
        law("s(!!!!k=[0])", 1);
        law("s(!!!!!k=[0])", -5009);
        law("s(!!!!!k=0&!!!!!k=0)", 1);
        law("s(!!!!!k=0&!!!!!!k=0)", -5016);
        law("s(!!!!(k=0)|([[[[k]]]]=1))", 1);
        law("s(!!!!(k=0)|([[[[[k]]]]]=1))", -5017);
        law("e[[[[[[k]]]]]](((((([", -5020);
        law("s([[[[[k]]]]]=[[[[[k]]]]])", 1);
        law("s([[[[[k]]]]]=[[[[[[k]]]]])", -5019);
        law("s((((((k=0)|k=0)|k=0)|k=0)|k=0)|k=0)", 1);
    }

    private static void promise8Hunts() {
        WolfKnight x = new WolfKnight();
        Due.is("no bytes", -1, x.hunts(0, 1));
        Due.feed(x, ".h.h");
        Due.is("no such place", -1, x.hunts(-1, 2));
        Due.is("no such place", -1, x.hunts(12, 2));
        Due.is("too small", -1, x.hunts(0, 0));
        Due.is("not so many", -1, x.hunts(0, 21));
        Due.is("the tape stays", 20, x.count(7));
        Due.is("the first bytes of it", 2, x.hunts(11, 2));
        Due.is("the tape is empty", 0, x.count(7));
        Due.is("days", 2, x.count(51));
        Due.is("a fault", -1001, Due.hunts(x, 11, "hx"));
        Due.is("those before stay", 2, x.count(51));
        Due.is("the tape is empty", 0, x.count(7));
        Due.is("40 bytes", 40, Due.hunts(x, 11, "h".repeat(40)));
        Due.is("in place of those before", 40, x.count(51));
        Due.is("of other places none", 0, x.count(50));
        for (int i = 0; i < 3; i++) {
            x.feed(0x2e2e2e2e, 0x2e2e2e2e, 0x2e2e2e2e, 0x2e2e2e2e, 0x2e2e2e2e);
        }
        Due.is("41 bytes", -1, x.hunts(0, 41));
        Due.is("the tape stays", 60, x.count(7));
        huntsAre("h", "h");
        huntsAre(".", ".");
        huntsAre("h..", "h..");
        huntsAre("2h3.h", "hh...h");
        huntsAre("(h.)", "h.");
        huntsAre("3(h.)h", "h.h.h.h");
        huntsAre("2(.2(h.).)h", ".h.h...h.h..h");
        huntsAre("2(2h3(.h))", "hh.h.h.hhh.h.h.h");
        huntsAre("((h))", "h");
        huntsAre("(h)(.)", "h.");
        huntsAre("6(7.h)", ".......h".repeat(6));
        huntsAre("5(9h)2.h", "h".repeat(45) + "..h");
    }

    private static void promise8Faults() {
        hunts("x", -1000);
        hunts("1h", -1000);
        hunts("0h", -1000);
        hunts("H", -1000);
        hunts(")", -1000);
        hunts("()", -1001);
        hunts("2()", -1002);
        hunts("2", -1001);
        hunts("22h", -1001);
        hunts("h2", -1002);
        hunts("(h", -1002);
        hunts("(", -1001);
        hunts("h)", -1001);
        hunts("(h))", -1003);
        hunts("(h;", -1002);
        hunts("h .", -1001);
        hunts("h\u0000", -1001);
        hunts("(h\u0000", -1002);
        hunts("(((", -5002);
        hunts("((2(", -5003);
        hunts("(h(.(", -5004);
        hunts("((h)(h)(h))", 3);
        hunts("((h)((h)))", -5005);
        hunts("6(8h)", 48);
        hunts("6(8h)h", -6005);
        hunts("6(8h)hx", -6005);
        hunts("6(8h)x", -1005);
        hunts("6(8h)2h", -6005);
        hunts("6(8h)2", -1006);
        hunts("6(8h)(h)", -6006);
        hunts("6(8h)(9h)", -6006);
        hunts("7(7h)", -6000);
        hunts("h7(7h)", -6001);
        hunts("2(3(9h))", -6000);
        hunts("2(6(9h))", -6002);
        hunts("2(9h6(9h))", -6004);
        hunts("5(9h)2(2h)x", -6005);
        hunts("5(9h)2(2hx)", -1009);
        hunts("5(9h)2(2h", -1009);
        hunts("5(9h)3.3(", -1009);
        hunts("9(9(9(", -5005);
        hunts("5(9h)3(h)", 48);
        hunts("5(9h)4(h)", -6005);
        hunts(".".repeat(40), 40);
        hunts("9.9.9.9.9.3.", 48);
        hunts("9.9.9.9.9.4.", -6010);
    }

    private static void promise9Diary() {
        WolfKnight x = people();
        Due.is("no bytes", -1, x.diary(1));
        Due.feed(x, "a>1;a>2;a>0");
        Due.is("too small", -1, x.diary(0));
        Due.is("not so many", -1, x.diary(21));
        Due.is("the tape stays", 20, x.count(7));
        Due.is("the first bytes of it", 2, x.diary(7));
        Due.is("place", 2, x.knightIs(0, 0));
        Due.is("two digits", 1, Due.diary(x, "a>11"));
        Due.is("place", 11, x.knightIs(0, 0));
        Due.is("two digits", 1, Due.diary(x, "a>00"));
        Due.is("place", 0, x.knightIs(0, 0));
        Due.is("still a man", 0, x.knightIs(0, 2));
        Due.is("a wolf", 2, Due.diary(x, "a>1;a+"));
        Due.is("a wolf", 1, x.knightIs(0, 2));
        Due.is("his clothes where he is", 1, x.knightIs(0, 3));
        Due.is("he goes", 1, Due.diary(x, "a>2"));
        Due.is("his clothes stay", 1, x.knightIs(0, 3));
        Due.is("they are laid", 1, Due.diary(x, "a@11"));
        Due.is("place", 2, x.knightIs(0, 0));
        Due.is("his clothes", 11, x.knightIs(0, 3));
        Due.is("a man", 1, Due.diary(x, "a-"));
        Due.is("a man", 0, x.knightIs(0, 2));
        Due.is("worn", -2, x.knightIs(0, 3));
        Due.is("place", 2, x.knightIs(0, 0));
        Due.is("by lines ahead", 7, Due.diary(x, "b-;b+;b@0;b-;b>2;b+;a>0"));
        Due.is("a wolf", 1, x.knightIs(1, 2));
        Due.is("his clothes", 2, x.knightIs(1, 3));
        Due.is("the day stays", 1, x.count(0));
        Due.is("20 lines", 20, Due.diary(x, "a+;a-;".repeat(9) + "a+;a-"));
        Due.is("99 bytes", 20, Due.diary(x, "b>00;b@11;".repeat(9) + "b>00;b@11"));
        Due.is("120 bytes", -1100, Due.diary(x, "b>00;b@11;".repeat(9) + "b>00;b@11" + ";".repeat(21)));
        for (int i = 0; i < 7; i++) {
            x.feed(0x612b3b61, 0, 0, 0, 0);
        }
        Due.is("121 bytes", -1, x.diary(121));
        Due.is("the tape stays", 140, x.count(7));
    }

    private static void promise9Faults() {
        diary("x", -1000);
        diary("j>1", -1000);
        diary("A>1", -1000);
        diary(";", -1000);
        diary("a", -1001);
        diary("a;", -1001);
        diary("a=1", -1001);
        diary("a>", -1002);
        diary("a>x", -1002);
        diary("a>;", -1002);
        diary("a> 1", -1002);
        diary("a>1x", -1003);
        diary("a>1\u0000", -1003);
        diary("\u0000", -1000);
        diary("a>1,b>1", -1003);
        diary("a+x", -1002);
        diary("a+1", -1002);
        diary("a>1;", -1004);
        diary("a>1;;", -1004);
        diary("a>01;x", -1005);
        diary("a>011", -2004);
        diary("a>999", -2004);
        diary("b@0;b@123", -2008);
        diary("c>1", -7000);
        diary("c", -7000);
        diary("d+", -7000);
        diary("i?", -7000);
        diary("a>1;i>1", -7004);
        diary("a>3", -7002);
        diary("a>12", -7002);
        diary("a>99", -7002);
        diary("a>3x", -7002);
        diary("a>3;x", -7002);
        diary("a+;a@4", -7005);
        diary("a@1", -9001);
        diary("a@", -9001);
        diary("a@x", -9001);
        diary("a-", -9001);
        diary("b+", -9001);
        diary("a+;a+", -9004);
        diary("b-;b-", -9004);
        diary("b-;b@1", -9004);
        diary("a+;a-;a-", -9007);
        diary("b>0;a>1;b@0;b-;c>1", -7015);
        String line = "a>1;";
        diary(line.repeat(20) + "a>1", -4080);
        diary(line.repeat(20) + "c>1", -4080);
        diary(line.repeat(20) + "i", -4080);
        diary(line.repeat(20) + "j", -1080);
        diary(line.repeat(20), -1080);
        diary(line.repeat(19) + "c>1", -7076);
    }

    public static void main(String[] args) {
        promise7LawSizes();
        promise7LongLaws();
        promise7LawWords();
        promise7Fault1();
        promise7OtherFaults();
        promise8Hunts();
        promise8Faults();
        promise9Diary();
        promise9Faults();
        Due.close("TextsTest");
    }
}
