/** Each promise by its number: ordinary inputs, the edges that the document names, wrong inputs. */
public final class PromiseTest extends Bench {
    public static void main(String[] args) {
        newObject();
        ice();
        feedIt();
        lawCounts();
        lawFaults();
        lawReckons();
        lawRefuses();
        lawLetters();
        cut();
        shut();
        group();
        settle();
        minutes();
        minuteWays();
        run();
        square();
        holeIs();
        groupIs();
        draws();
        sound();
        places();
        closing();
        rescue();
        rescuePlaces();
        began();
        fee();
        row();
        seed();
        draw();
        keepAndUndo();
        check();
        count();
        end();
    }

    private static void newObject() {
        about("promise 1");
        HoleFair f = new HoleFair();
        for (int y = 0; y < 16; y++) {
            f = new HoleFair();
            for (int x = 0; x < 16; x++) {
                due("thick", f.square(x, y, 0), 50);
                due("whole", f.square(x, y, 1), 0);
                due("bears without a law", f.square(x, y, 2), 0);
            }
        }
        int[] counts = {0, 0, 0, 0, 0, 1, 0, 0};
        for (int i = 0; i < 8; i++) {
            due("count " + i, f.count(i), counts[i]);
        }
        due("nothing kept", f.undo(), false);
        due("NONE", HoleFair.NONE, -1);
    }

    private static void ice() {
        about("promise 2");
        HoleFair f = with("b0(1=1);c1(1=1)");
        due("least", f.ice(0, 0, 0), true);
        due("most", f.ice(15, 15, 99), true);
        due("thick", f.square(0, 0, 0), 0);
        due("thick", f.square(15, 15, 0), 99);
        due("x below", f.ice(-1, 0, 5), false);
        due("x above", f.ice(16, 0, 5), false);
        due("y below", f.ice(0, -1, 5), false);
        due("y above", f.ice(0, 16, 5), false);
        due("thick below", f.ice(0, 0, -1), false);
        due("thick above", f.ice(0, 0, 100), false);
        due("unchanged", f.square(0, 0, 0), 0);
        f.group(4, 4, 1);
        due("breaks", f.settle(), 1);
        due("broken", f.square(4, 4, 1), 1);
        due("gap", f.square(5, 5, 4), 1);
        due("mended", f.ice(4, 4, 7), true);
        due("whole then", f.square(4, 4, 1), 0);
        due("no gap", f.square(5, 5, 4), 0);
        due("still drowned", f.groupIs(0, 0), -2);
        due("carries none", f.square(4, 4, 3), 0);
        f.cut(8, 8, 0, 3, 0, 0);
        due("under a hole", f.ice(8, 8, 9), true);
        due("the hole stays open", f.square(8, 8, 1), 2);
        due("thick under a hole", f.square(8, 8, 0), 9);
        due("its gap stays", f.square(8, 9, 4), 1);
    }

    private static void feedIt() {
        about("promise 3");
        HoleFair f = new HoleFair();
        for (int i = 1; i <= 11; i++) {
            due("feed " + i, f.feed(i, 0, 0, 0, 0), 20 * i);
        }
        due("beyond 220", f.feed(1, 1, 1, 1, 1), -1);
        due("still 220", f.count(4), 220);
        f.check(0, 0);
        // the highest byte first: b 1 ( 1 in the first int
        due("bytes", f.feed('b' << 24 | '1' << 16 | '(' << 8 | '1', '=' << 24 | '1' << 16 | ')' << 8, 0, 0, 0), 20);
        due("in their order", f.law(7), 1);
        due("a byte above 127", f.feed(0xff000000, 0, 0, 0, 0), 20);
        due("is no sign", f.law(1), -1000);
        f.feed(0x80ff0000, 0, 0, 0, 0);
        due("squares 128 and 255", f.began(2, 0), 0);
    }

    private static void lawCounts() {
        about("promise 4");
        HoleFair f = new HoleFair();
        due("no tape", f.law(1), -1);
        due("one", law(f, "b1(1=1)"), 1);
        due("emptied", f.count(4), 0);
        due("count", f.count(3), 1);
        f.feed(0, 0, 0, 0, 0);
        due("n 0", f.law(0), -1);
        due("n below 0", f.law(-1), -1);
        due("n 21 of 20", f.law(21), -1);
        due("the tape stays", f.count(4), 20);
        due("a fault", f.law(20), -1000);
        due("empties too", f.count(4), 0);
        due("the text before stays", f.square(0, 0, 2), 1);
        due("and its clauses", f.count(3), 1);
        for (int i = 0; i < 11; i++) {
            f.feed(0x62202020, 0, 0, 0, 0);
        }
        due("n 201 of 220", f.law(201), -1);
        due("n 200 of 220", f.law(200), -1001);
        StringBuilder full = new StringBuilder("b1");
        while (full.length() < 190) {
            full.append("+1");
        }
        due("200 bytes", law(f, full + "+123(1=1)"), 1);
        due("all of them", f.square(0, 0, 2), 95 + 123);
        StringBuilder fourteen = new StringBuilder("t1(1=1)");
        for (int i = 1; i < 14; i++) {
            fourteen.append(";b").append(i).append("(x=").append(i).append(")");
        }
        due("fourteen", law(f, fourteen.toString()), 14);
        due("the last of them", f.square(13, 0, 2), 13);
        due("none for it", f.square(14, 0, 2), 0);
        due("in place of it", law(f, "c1(1=1);b2(1=1)"), 2);
        due("no t any more", f.minutes(1), 0);
        due("thick", f.square(0, 0, 0), 50);
    }

    private static void fault(String text, int number, int place) {
        HoleFair f = new HoleFair();
        due("fault of " + text, law(f, text), -1000 * number - place);
    }

    private static void lawFaults() {
        about("promise 4");
        fault("q1(1=1)", 1, 0);
        fault(";", 1, 0);
        fault("B1(1=1)", 1, 0);
        fault(" b1(1=1)", 1, 0);
        fault("b", 1, 1);
        fault("b-1(1=1)", 1, 1);
        fault("b(1=1)", 1, 1);
        fault("b]", 1, 1);
        fault("bb(1=1)", 1, 1);
        fault("b1", 1, 2);
        fault("b1 (1=1)", 1, 2);
        fault("b1=1(1=1)", 1, 2);
        fault("b1i(1=1)", 1, 2);
        fault("bi1(1=1)", 1, 2);
        fault("b1+(1=1)", 1, 3);
        fault("b[1(1=1)", 1, 3);
        fault("b[]", 1, 2);
        fault("b1()", 1, 3);
        fault("b1(1)", 1, 4);
        fault("b1(1=)", 1, 5);
        fault("b1(1=1", 1, 6);
        fault("b1(1=1=1)", 1, 6);
        fault("b1(1=1]", 1, 6);
        fault("b1([1=1])", 1, 5);
        fault("b1((1)=1)", 1, 5);
        fault("b1((1=1)=1)", 1, 8);
        fault("b1((1=1)+1)", 1, 8);
        fault("b1(!)", 1, 4);
        fault("b1(1=!1)", 1, 5);
        fault("b1(1=(1))", 1, 5);
        fault("b1(1=1&)", 1, 7);
        fault("b1(1=1&&1=1)", 1, 7);
        fault("b1(1=1|&1=1)", 1, 7);
        fault("b1(1=1))", 1, 7);
        fault("b1(1=1)b1(1=1)", 1, 7);
        fault("b1(1=1);", 1, 8);
        fault("b1(1=1);;", 1, 8);
        fault("b1(1=1);x1(1=1)", 1, 8);
        fault("b123456", 2, 6);
        fault("b000001(1=1)", 2, 6);
        fault("b1(123456=1)", 2, 8);
        fault("b12345", 1, 6);
        fault("b12345x", 1, 6);
        fault("b[[[[[[[1", 5, 7);
        fault("b[[[[[[1]", 1, 9);
        fault("b1(((((((1", 5, 8);
        fault("b1((((((([", 5, 8);
        fault("b1(!!!!!!1", 5, 8);
        fault("b1(!(!(![1=1", 5, 8);
        fault("b1(!(!(!1=1", 1, 11);
        fault("b1(!(!([[1]=1", 5, 8);
        fault("b1(!(!([1<[2", 1, 9);
        fault("b1(1<[[[[[[1", 5, 10);
        fault("b1(1<1&!!!!!(", 5, 12);
        fault("b1(1<1(", 1, 6);
        HoleFair f = new HoleFair();
        due("six deep", law(f, "b[[[[[[1]]]]]](!!!!!1=1)"), 1);
        due("a ! ends with its piece", law(f, "b1(!!!!!1=1&!!!!!1=1|[[[[[1]]]]]=1)"), 1);
        due("a ( ends with its )", law(f, "b1(((((((1=1)))))&(((((1=1))))))"), -5008);
        due("a ( ends with its )", law(f, "b1((((((1=1)))))&(((((1=1))))))"), 1);
        StringBuilder many = new StringBuilder();
        for (int i = 0; i < 14; i++) {
            many.append("b1(1=1);");
        }
        fault(many.toString(), 1, 112);
        fault(many + "x", 1, 112);
        fault(many + "c", 4, 112);
        fault(many + "c1(1=1)", 4, 112);
    }

    private static void bears(String text, int want) {
        due("b of " + text, with(text).square(3, 5, 2), want);
    }

    private static void lawReckons() {
        about("promise 4");
        bears("b7(1=1)", 7);
        bears("b007(1=1)", 7);
        bears("b2+3*4-1(1=1)", 13);
        bears("b20-3-4(1=1)", 13);
        bears("b100/7/2(1=1)", 7);
        bears("b100%7*3(1=1)", 6);
        bears("b2*[3+4](1=1)", 14);
        bears("b[[2]+[3]]*[5-1](1=1)", 20);
        bears("b1-2+3*2%4(1=1)", 1);
        bears("b[0-7]/2+10(1=1)", 7);
        bears("b[0-7]%4+10(1=1)", 7);
        bears("b9999(1=1)", 9999);
        bears("b10000(1=1)", 9999);
        bears("b1-2(1=1)", 0);
        // 32 bits: 65536 * 65536 is 0; 46341 * 46341 is below 0
        bears("b65536*65536+5(1=1)", 5);
        bears("b46341*46341(1=1)", 0);
        bears("b[0-2147*10000*100-48364*10-8]/[0-1]%1000+700(1=1)", 52);
        bears("b1(1=2);b2(1<1);b3(1>2);b4(1<2);b5(1=1)", 4);
        bears("b1(1=2|2=2&1=2);b2(1=1&1=2|3=3)", 2);
        bears("b1(!1=1|1=2);b2(!(1=2)&!!1=1)", 2);
        bears("b1((1=1|1=1)&1=2);b2(1=1|1=1&1=2)", 2);
        bears("b1(1=2&1=1&1=1|2=2);b2(1=1)", 1);
        bears("b1(1=1&1=2&1=1|2=3|3=3);b2(1=1)", 1);
        bears("b1(1=1|1=2|1=2);b2(1=1)", 1);
        bears("b1(!2>1);b2(!1<2);b3(!1=1);b4(!1>2&!2<1&!1=2)", 4);
        bears("b1(!(1=1|1=2|1=2)|1=2);b2(1=1)", 2);
        bears("b1((1=2&1=1&1=1|2=2)&1=1&1=1);b2(1=1)", 1);
        bears("b1(!(1=2&1=1&1=1)&!(1=1&1=2&1=1)&!(1=1&1=1&1=2));b2(1=1)", 1);
        bears("b1(1=1&(1=2|1=1|1=2)&!(1=2|1=2|1=1)|1=2);b2(1=1)", 2);
        bears("t9(1=1);c1(1=1);g9(1=1)", 0);
        bears("t5(1=1);b6(1=1);b7(1=1)", 6);
    }

    private static void lawRefuses() {
        about("promise 4");
        bears("b1/0(1=1);b2(1=1)", 0);
        bears("b1%0(1=1);b2(1=1)", 0);
        bears("b5+[1/[x-3]]*0(1=1);b2(1=1)", 0);
        bears("b1(1/0=0);b2(1=1)", 2);
        bears("b1(!1/0=0);b2(1=1)", 2);
        bears("b1(!(1/0=0));b2(1=1)", 2);
        bears("b1(1/0=0|1=1);b2(1=1)", 2);
        bears("b1(1=1|1/0=0);b2(1=1)", 1);
        bears("b1(1=2&1/0=0);b2(1=1)", 2);
        bears("b1(1=2&1/0=0|1=1);b2(1=1)", 1);
        bears("b1((1=1|1/0=0)&3=3);b2(1=1)", 1);
        bears("b1(!(1=2&1%0=0));b2(1=1)", 1);
        bears("b1(1=2|(1=1&1/0=1)|1=1);b2(1=1)", 2);
        bears("b1(1=1&1=1|1/0=1&1/0=1);b2(1=1)", 1);
    }

    private static void lawLetters() {
        about("promise 4");
        bears("bx*100+y(1=1)", 305);
        bears("bi(1=1)", 50);
        bears("bs+p+d+w+q+m+n+h(1=1)", 0);
        bears("bk(1=1)", 9);
        HoleFair f = with("c1(k=2&x=3);bk*1000+n*100+h*10+m(1=1);tk(1=1);gi+n*100+h*10+k+x+y-x-y(1=1)");
        due("c: another kind", f.cut(3, 5, 1, 1, 1, 1), -2);
        due("c: its kind", f.cut(3, 5, 2, 4, 6, 7), 0);
        due("b there", f.square(3, 5, 2), 2040);
        due("b beside", f.square(3, 6, 2), 9140);
        f.group(9, 5, 10);
        due("g: thick of the hole's", f.draws(0, 0), 50 + 40 + 2);
        f.minutes(1);
        due("t there", f.square(3, 5, 0), 48);
        due("t elsewhere", f.square(0, 0, 0), 41);
        due("m", f.square(15, 15, 2), 9001);
        f.shut(0);
        due("shut: 9 again", f.square(3, 5, 2), 9001);
        f = with("c1(s+p+d+w+q=0);gs*100+p*10(d=99);gd*100+w*10+q(1=1);b99(1=1)");
        due("in c they are 0", f.cut(5, 5, 0, 9, 9, 9), 0);
        f.group(2, 1, 7);
        f.group(5, 6, 1);
        f.group(6, 6, 1);
        due("d, w, q", f.draws(0, 0), 7 * 100 + 70 + 1);
        due("q with itself", f.draws(0, 1), 100 + 10 + 1);
        due("d 2 is not near", f.draws(0, 2), 200 + 10 + 1);
        law(f, "b1+s+p+d+w+q(1=1);gs+p+d+w+q(1=1)");
        due("in g they are not", f.draws(0, 0) > 0, true);
        due("in b they are 0, behind a g too", f.square(5, 5, 2), 1);
        f = with("c1(1=1);gs*10+p(1=1)");
        f.cut(5, 5, 0, 0, 8, 3);
        f.group(0, 0, 1);
        due("s, p", f.draws(0, 0), 83);
        law(f, "gx*16+y(1=1)");
        due("x, y of the hole", f.draws(0, 0), 85);
        law(f, "g1000(1=1)");
        due("at most 999", f.draws(0, 0), 999);
        law(f, "g0-1(1=1)");
        due("at least 0", f.draws(0, 0), 0);
        law(f, "t99(1=1)");
        f.minutes(1);
        due("t at most 9", f.square(0, 0, 0), 41);
    }

    private static void cut() {
        about("promise 5");
        HoleFair f = new HoleFair();
        due("no law", f.cut(0, 0, 0, 0, 0, 0), -2);
        f = with("c1(i>9);b0(x<3);b9(1=1)");
        due("x", f.cut(-1, 0, 0, 0, 0, 0), -1);
        due("x", f.cut(16, 0, 0, 0, 0, 0), -1);
        due("y", f.cut(0, -1, 0, 0, 0, 0), -1);
        due("y", f.cut(0, 16, 0, 0, 0, 0), -1);
        due("kind", f.cut(0, 0, -1, 0, 0, 0), -1);
        due("kind", f.cut(0, 0, 5, 0, 0, 0), -1);
        due("heat", f.cut(0, 0, 0, -1, 0, 0), -1);
        due("heat", f.cut(0, 0, 0, 10, 0, 0), -1);
        due("smell", f.cut(0, 0, 0, 0, -1, 0), -1);
        due("smell", f.cut(0, 0, 0, 0, 10, 0), -1);
        due("price", f.cut(0, 0, 0, 0, 0, -1), -1);
        due("price", f.cut(0, 0, 0, 0, 0, 10), -1);
        due("most", f.cut(15, 15, 4, 9, 9, 9), 0);
        due("again", f.cut(15, 15, 4, 9, 9, 9), -1);
        f.ice(14, 12, 9);
        due("the law", f.cut(14, 12, 0, 0, 0, 0), -2);
        f.group(14, 12, 1);
        due("a group ahead of the law", f.cut(14, 12, 0, 0, 0, 0), -1);
        f.group(2, 2, 1);
        f.settle();
        due("broken", f.cut(2, 2, 0, 0, 0, 0), -1);
        f.ice(2, 2, 50);
        due("a drowned group is not there", f.cut(2, 2, 0, 0, 0, 0), 1);
        due("second", f.cut(12, 15, 0, 0, 0, 0), 2);
        due("a row", f.cut(9, 15, 0, 0, 0, 0), -3);
        f.ice(9, 15, 9);
        due("the law ahead of a row", f.cut(9, 15, 0, 0, 0, 0), -2);
        due("shut", f.shut(2), true);
        due("at a shut one's", f.cut(12, 15, 1, 2, 3, 4), 3);
        due("the shut one stays shut", f.holeIs(2, 1), 0);
        due("the new one is open", f.holeIs(3, 1), 1);
        due("it can't be shut again", f.shut(2), false);
        int made = 4;
        for (int i = 0; made < 12 && i < 12; i++) {
            f.cut(i, i * i % 5 + 6, 0, 0, 0, 0);
            made = f.count(1);
            f.shut(made - 1);
        }
        due("twelve", f.count(1), 12);
        due("no thirteenth", f.cut(0, 0, 0, 0, 0, 0), -1);
        f.ice(1, 0, 0);
        due("ahead of the law", f.cut(1, 0, 0, 0, 0, 0), -1);
    }

    private static void shut() {
        about("promise 6");
        HoleFair f = with("c1(1=1);bi-n-h(1=1)");
        due("none", f.shut(0), false);
        due("below", f.shut(-1), false);
        f.cut(4, 4, 1, 5, 0, 0);
        f.cut(6, 4, 1, 2, 0, 0);
        due("warmth between", f.square(5, 4, 5), 7);
        due("gaps between", f.square(5, 4, 4), 2);
        due("shut", f.shut(0), true);
        due("warmth", f.square(5, 4, 5), 2);
        due("gaps", f.square(5, 4, 4), 1);
        due("ice again", f.square(4, 4, 1), 0);
        due("again", f.shut(0), false);
        due("beyond", f.shut(2), false);
        due("most", f.shut(Integer.MAX_VALUE), false);
        due("a group there", f.group(4, 4, 3), 0);
        due("counted still", f.count(1), 2);
    }

    private static void group() {
        about("promise 7");
        HoleFair f = with("c1(1=1);b5(1=1)");
        due("x", f.group(-1, 0, 1), -1);
        due("x", f.group(16, 0, 1), -1);
        due("y", f.group(0, -1, 1), -1);
        due("y", f.group(0, 16, 1), -1);
        due("weight", f.group(0, 0, 0), -1);
        due("weight", f.group(0, 0, 100), -1);
        f.cut(3, 3, 0, 0, 0, 0);
        due("a hole", f.group(3, 3, 1), -1);
        due("first", f.group(0, 0, 99), 0);
        due("breaks", f.settle(), 1);
        due("broken", f.group(0, 0, 1), -1);
        for (int i = 1; i < 8; i++) {
            due("more on one square", f.group(9, 9, 1), i);
        }
        due("a ninth, one being drowned", f.group(9, 9, 1), -1);
        due("carried", f.square(9, 9, 3), 7);
        due("groups", f.count(2), 8);
    }

    private static void settle() {
        about("promise 8");
        HoleFair f = with("b30-n*10(1=1);c1(1=1)");
        due("nothing", f.settle(), 0);
        f.group(5, 5, 31);
        f.group(6, 5, 20);
        f.group(7, 5, 21);
        f.group(8, 5, 20);
        f.group(10, 5, 30);
        // 5 breaks; 6 bears just 20; so 7 is not touched
        due("one breaks", f.settle(), 1);
        due("carries just what it bears", f.groupIs(1, 0), 86);
        due("minute", f.count(0), 0);
        f.group(6, 5, 1);
        // now 6 falls, then 7 with 21 over 20, then 8 bears 20 and stays
        due("on and on", f.settle(), 2);
        due("drowned", f.count(7), 4);
        due("stays", f.groupIs(3, 0), 88);
        f.cut(9, 5, 0, 0, 0, 0);
        // 8 has gaps 7 and 9: bears 10; 10 has gap 9: bears 20; both at once
        due("both", f.settle(), 2);
        due("all drowned", f.count(7), 6);
        due("broken", f.count(6), 5);
        f = with("b10(n=0);b99(1=1)");
        f.group(1, 1, 11);
        f.group(2, 1, 11);
        due("all such at once", f.settle(), 2);
        f = with("b30-n*10(1=1)");
        for (int i = 0; i < 8; i++) {
            f.group(3 + i, 4, i == 7 ? 31 : 25);
        }
        due("eight, one behind the other", f.settle(), 8);
        due("eight", f.count(7), 8);
        f = new HoleFair();
        f.group(1, 1, 1);
        due("no law bears nothing", f.settle(), 1);
        due("what carries none stays whole", f.count(6), 1);
    }

    private static void minutes() {
        about("promise 9");
        HoleFair f = with("bi(1=1);t1(m<3);t2(x>3);c1(1=1)");
        due("0", f.minutes(0), -1);
        due("61", f.minutes(61), -1);
        due("below", f.minutes(-5), -1);
        due("nothing done", f.count(0), 0);
        f.group(0, 0, 48);
        f.group(5, 5, 48);
        f.ice(1, 0, 2);
        due("two minutes", f.minutes(2), 0);
        due("third: both are over", f.minutes(1), 2);
        due("minute", f.count(0), 3);
        due("broken ice stays as thick", f.square(0, 0, 0), 47);
        due("not below 0", f.square(1, 0, 0), 0);
        due("sixty", f.minutes(60), 0);
        due("thawed by 2", f.square(4, 0, 0), 0);
        due("not thawed", f.square(2, 0, 0), 47);
        due("broken does not thaw", f.square(5, 5, 0), 47);
        f = with("b9999(1=1);t2(k<5);t1(1=1);c1(1=1)");
        f.cut(7, 7, 0, 0, 0, 0);
        f.minutes(3);
        due("ice under a hole thaws", f.square(7, 7, 0), 44);
        due("other ice", f.square(7, 8, 0), 47);
        f = with("bm*0+48-m*10(1=1)");
        f.group(0, 0, 40);
        due("the minute is told on last", f.minutes(1), 0);
        due("then", f.minutes(1), 1);
    }

    private static void minuteWays() {
        about("promise 9");
        HoleFair f = with("b9999(1=1);c1(1=1);gs(1=1)");
        f.cut(5, 5, 0, 0, 3, 0);
        f.cut(9, 9, 0, 0, 3, 0);
        f.cut(1, 9, 0, 0, 0, 0);
        f.group(8, 8, 1);
        f.minutes(1);
        due("of like ones the lowest, along x", f.groupIs(0, 0), 8 * 16 + 7);
        f.minutes(2);
        due("x is reached", f.groupIs(0, 0), 8 * 16 + 5);
        f.minutes(1);
        due("then along y", f.groupIs(0, 0), 7 * 16 + 5);
        f.minutes(5);
        due("up to the hole's side", f.groupIs(0, 0), 6 * 16 + 5);
        f.shut(0);
        f.shut(1);
        f.minutes(1);
        due("by 0 none", f.groupIs(0, 0), 6 * 16 + 5);
        f = with("b9999(x<9);c1(1=1);gs(1=1)");
        f.cut(5, 5, 0, 0, 3, 0);
        f.cut(4, 6, 0, 0, 0, 0);
        f.group(3, 6, 1);
        f.group(4, 7, 1);
        f.minutes(1);
        due("a hole in the way along x: along y", f.groupIs(0, 0), 5 * 16 + 3);
        due("x first", f.groupIs(1, 0), 7 * 16 + 5);
        f = with("b9999(1=1);c1(1=1);gs(1=1)");
        f.cut(5, 5, 0, 0, 3, 0);
        f.cut(6, 6, 0, 0, 0, 0);
        f.cut(7, 5, 0, 0, 0, 0);
        f.group(7, 6, 1);
        f.minutes(3);
        due("both ways shut: it stays", f.groupIs(0, 0), 6 * 16 + 7);
        // q changes while groups go one behind the other
        f = with("b9999(1=1);c1(1=1);g10(q=0);g5(k=1)");
        f.cut(5, 5, 0, 0, 0, 0);
        f.cut(12, 5, 1, 0, 0, 0);
        f.group(5, 7, 1);
        f.group(5, 9, 1);
        f.minutes(1);
        due("the first goes near", f.groupIs(0, 0), 6 * 16 + 5);
        due("the second sees it there", f.groupIs(1, 0), 9 * 16 + 6);
        f = with("b50-n*49(1=1);c1(1=1);gs(1=1)");
        f.cut(5, 5, 0, 0, 3, 0);
        f.group(2, 5, 2);
        due("it goes and stands", f.minutes(1), 0);
        due("it goes on weak ice and drowns", f.minutes(1), 1);
        due("there", f.square(4, 5, 1), 1);
    }

    private static void run() {
        about("promise 10");
        HoleFair f = with("bi(1=1);t1(1=1);c1(1=1);gs(1=1)");
        f.group(1, 1, 45);
        f.group(5, 1, 1);
        f.cut(9, 1, 0, 0, 9, 0);
        due("n", f.run(0, 0), -1);
        due("n", f.run(61, 0), -1);
        due("what", f.run(1, -1), -1);
        due("what", f.run(1, 2), -1);
        due("what", f.run(1, 9), -1);
        due("what", f.run(1, 12), -1);
        due("what", f.run(1, Integer.MIN_VALUE), -1);
        due("not yet", f.run(5, 0), 0);
        due("then", f.run(6, 0), 1);
        due("broken", f.run(6, 1), 1);
        due("drowned", f.run(6, 10), -2);
        due("afloat", f.run(5, 10), 16 + 6);
        due("the other", f.run(6, 11), 16 + 8);
        due("sixty", f.run(60, 0), 2);
        due("nothing is changed", f.count(0), 0);
        due("nothing is changed", f.count(7), 0);
        due("nothing is changed", f.groupIs(0, 0), 17);
        due("nothing is changed", f.square(1, 1, 0), 50);
        f.minutes(6);
        due("drowned ahead of it is not told", f.run(1, 0), 0);
        due("broken ahead of it is", f.run(1, 1), 1);
        due("drowned ahead of it", f.run(1, 10), -2);
        f.keep();
        f.run(30, 0);
        due("kept stays", f.undo(), true);
        due("kept stays", f.count(0), 6);
    }

    private static void square() {
        about("promise 11");
        HoleFair f = with("bi*3+n+h*10+k(1=1);c1(1=1)");
        for (int what = 0; what < 6; what++) {
            due("x", f.square(16, 0, what), -1);
            due("x", f.square(-1, 0, what), -1);
            due("y", f.square(0, 16, what), -1);
            due("y", f.square(0, -1, what), -1);
        }
        due("what", f.square(0, 0, -1), -1);
        due("what", f.square(0, 0, 6), -1);
        f.cut(1, 1, 3, 4, 0, 0);
        f.cut(0, 2, 1, 5, 0, 0);
        f.group(0, 1, 9);
        f.group(0, 1, 8);
        int[] side = {50, 0, 150 + 2 + 90 + 9, 17, 2, 9};
        int[] hole = {50, 2, 150 + 1 + 90 + 3, 0, 1, 9};
        for (int what = 0; what < 6; what++) {
            due("beside", f.square(0, 1, what), side[what]);
            due("a hole", f.square(1, 1, what), hole[what]);
        }
        due("corner", f.square(0, 0, 4), 1);
        due("corner", f.square(0, 0, 5), 4);
        due("far", f.square(3, 3, 4), 0);
        law(f, "bn(1=1)");
        due("it breaks", f.settle(), 1);
        int[] broken = {50, 1, 2, 0, 2, 9};
        for (int what = 0; what < 6; what++) {
            due("broken", f.square(0, 1, what), broken[what]);
        }
        due("a gap more", f.square(0, 0, 4), 2);
        due("a gap more", f.square(1, 1, 4), 2);
    }

    private static void holeIs() {
        about("promise 12");
        HoleFair f = with("c1(1=1)");
        due("none", f.holeIs(0, 0), -1);
        f.cut(7, 9, 4, 1, 2, 3);
        f.cut(2, 0, 0, 9, 8, 7);
        int[] first = {151, 1, 4, 1, 2, 3};
        int[] second = {2, 1, 0, 9, 8, 7};
        for (int what = 0; what < 6; what++) {
            due("first", f.holeIs(0, what), first[what]);
            due("second", f.holeIs(1, what), second[what]);
            due("below", f.holeIs(-1, what), -1);
            due("beyond", f.holeIs(2, what), -1);
        }
        due("what", f.holeIs(0, -1), -1);
        due("what", f.holeIs(0, 6), -1);
        f.shut(0);
        due("shut", f.holeIs(0, 1), 0);
        due("its square", f.holeIs(0, 0), 151);
    }

    private static void groupIs() {
        about("promise 13");
        HoleFair f = with("c1(1=1);b50(1=1);g99-d(p<5)");
        due("none", f.groupIs(0, 0), -1);
        f.group(3, 4, 51);
        f.group(9, 4, 50);
        due("square", f.groupIs(0, 0), 67);
        due("weight", f.groupIs(0, 1), 51);
        due("no hole", f.groupIs(0, 2), -1);
        due("what", f.groupIs(0, 3), -1);
        due("what", f.groupIs(0, -1), -1);
        due("beyond", f.groupIs(2, 0), -1);
        due("below", f.groupIs(-1, 0), -1);
        f.cut(3, 8, 0, 0, 0, 5);
        due("drawn by 0", f.groupIs(0, 2), -1);
        f.cut(9, 8, 0, 0, 0, 0);
        f.cut(9, 1, 0, 0, 0, 0);
        due("nearest", f.groupIs(1, 2), 2);
        f.cut(5, 5, 0, 0, 0, 0);
        due("nearest", f.groupIs(0, 2), 3);
        f.settle();
        due("drowned", f.groupIs(0, 0), -2);
        due("its weight", f.groupIs(0, 1), 51);
        due("drawn no more", f.groupIs(0, 2), -1);
    }

    private static void draws() {
        about("promise 14");
        HoleFair f = with("c1(1=1);b50(1=1);gd*w(1=1)");
        f.cut(3, 3, 0, 0, 0, 0);
        f.cut(8, 3, 0, 0, 0, 0);
        due("no group", f.draws(0, 0), -1);
        f.group(0, 0, 2);
        f.group(15, 15, 51);
        due("six", f.draws(0, 0), 12);
        due("the other", f.draws(1, 0), 22);
        due("bound", f.draws(0, 1), 999);
        due("no hole", f.draws(2, 0), -1);
        due("no hole", f.draws(-1, 0), -1);
        due("no group", f.draws(0, 2), -1);
        due("no group", f.draws(0, -1), -1);
        f.shut(1);
        due("shut", f.draws(1, 0), -1);
        f.settle();
        due("drowned", f.draws(0, 1), -1);
    }

    private static void sound() {
        about("promise 15");
        HoleFair f = with("c1(1=1);bi(x<9);b40-m(1=1);t1(h>0);t5(x=15)");
        f.cut(4, 4, 0, 1, 0, 0);
        f.cut(12, 4, 0, 0, 0, 0);
        f.cut(0, 0, 0, 9, 0, 0);
        due("no hole", f.sound(3, 1), -1);
        due("no hole", f.sound(-1, 1), -1);
        due("load", f.sound(0, -1), -1);
        due("load", f.sound(0, 10000), -1);
        due("load 0", f.sound(0, 0), 60);
        due("the most", f.sound(0, 9999), 0);
        due("not even now", f.sound(0, 51), 0);
        due("just now", f.sound(0, 50), 1);
        due("ten", f.sound(0, 41), 10);
        due("fifty", f.sound(0, 1), 50);
        due("by the minute", f.sound(1, 1), 40);
        due("a corner", f.sound(2, 49), 2);
        f.ice(3, 4, 45);
        due("the weakest", f.sound(0, 41), 5);
        f.cut(3, 4, 0, 0, 0, 0);
        due("an open hole need not bear", f.sound(0, 41), 10);
        f.group(6, 4, 9);
        f.minutes(1);
        due("a minute later", f.sound(0, 41), 9);
        due("nothing is changed", f.count(0), 1);
        due("nothing is changed", f.square(4, 5, 0), 49);
        f.shut(0);
        due("shut", f.sound(0, 1), -1);
        for (int i = 0; i < 9; i++) {
            f = with("c1(1=1);bi(1=1)");
            f.cut(4, 4, 0, 0, 0, 0);
            f.ice(3 + i % 3, 3 + i / 3, 7);
            due("by each neighbour, not by itself", f.sound(0, 8), i == 4 ? 60 : 0);
        }
        f = with("c1(1=1);b60-m(1=1)");
        f.cut(4, 4, 0, 1, 0, 0);
        due("59", f.sound(0, 2), 59);
        due("60", f.sound(0, 1), 60);
        law(f, "b61-m(1=1)");
        due("at most 60", f.sound(0, 1), 60);
    }

    private static void places() {
        about("promise 16");
        HoleFair f = with("c1(k=0&i>9);b9(1=1)");
        feed(f, 0, 9);
        due("n", f.places(0, -1), -3);
        due("n", f.places(11, -1), -3);
        due("what", f.places(1, 0), -3);
        due("what", f.places(1, 2), -3);
        due("what", f.places(1, -2), -3);
        due("the tape stays", f.count(4), 20);
        due("all twenty bytes are zeros", f.places(10, 1), -2);
        due("emptied", f.count(4), 0);
        due("no tape", f.places(1, -1), -3);
        feed(f, 0, 5, 2, 5, 4, 5);
        due("a row among them: of like ones the least", f.places(3, 1), 3);
        feed(f, 0, 5, 2, 5, 4, 5);
        due("worth", f.places(3, -1), 10);
        feed(f, 0, 5, 1, 5, 17, 11, 16, 3);
        due("neighbours", f.places(4, 1), 4);
        feed(f, 0, 5, 2, 5, 20, 10);
        due("no row, no neighbours", f.places(3, 1), 7);
        feed(f, 0, 5, 1, 10, 2, 5);
        due("one rather than two", f.places(3, 1), 2);
        feed(f, 0, 0, 40, 0);
        due("worth 0", f.places(2, 1), 0);
        feed(f, 0, 255, 15, 255, 240, 255, 255, 255);
        due("corners", f.places(4, -1), 1020);
        feed(f, 0, 1, 15, 1, 240, 1, 255, 1);
        due("corners", f.places(4, 1), 15);
        feed(f, 7, 1, 6, 2, 7, 3);
        due("twice", f.places(3, 1), -2);
        f.cut(8, 8, 0, 0, 0, 0);
        feed(f, 8 * 16 + 8, 9, 8 * 16 + 9, 9, 7 * 16 + 7, 9, 8 * 16 + 10, 1);
        due("a hole and its neighbours", f.places(4, 1), 8);
        feed(f, 8 * 16 + 10, 1, 8 * 16 + 12, 1);
        due("a row of two with a hole", f.places(2, 1), 1);
        feed(f, 8 * 16 + 6, 1, 8 * 16 + 10, 2);
        due("a hole in the middle", f.places(2, 1), 2);
        f.cut(11, 8, 0, 0, 0, 0);
        feed(f, 8 * 16 + 14, 1, 8 * 16 + 5, 1, 8 * 16 + 2, 1);
        due("a row of one with two holes", f.places(3, 1), 4);
        f.shut(1);
        feed(f, 8 * 16 + 14, 1, 8 * 16 + 5, 1, 8 * 16 + 2, 1);
        due("shut", f.places(3, 1), 3);
        f.ice(0, 0, 9);
        f.group(2, 0, 5);
        f.group(4, 0, 10);
        f.settle();
        feed(f, 0, 1, 2, 1, 4, 1, 6, 1);
        due("the law, a group, broken", f.places(4, 1), 8);
        feed(f, 0, 1, 4, 2, 8, 4, 12, 8, 32, 16, 36, 32, 40, 64, 44, 128, 64, 255, 68, 255);
        due("ten", f.places(10, -1), 4 + 8 + 16 + 32 + 64 + 128 + 255 + 255);
    }

    private static void closing() {
        about("promise 17");
        HoleFair f = with("c1(1=1);b50-m*y(1=1)");
        due("no hole", f.closing(1, 0, -1), -3);
        f.cut(1, 4, 4, 1, 0, 0);
        f.cut(5, 4, 0, 2, 0, 0);
        f.cut(9, 10, 1, 9, 0, 0);
        due("none", f.closing(0, 0, -1), -3);
        due("below 0", f.closing(-1, 0, -1), -3);
        due("no such one", f.closing(8, 0, -1), -3);
        due("no such one", f.closing(4096, 0, -1), -3);
        due("load", f.closing(1, -1, -1), -3);
        due("load", f.closing(1, 10000, -1), -3);
        due("place", f.closing(1, 0, 1), -3);
        due("place", f.closing(1, 0, -2), -3);
        // load 30: squares at y 5 fall below at minute 5, those at y 11 at minute 2
        due("sound", f.sound(0, 30), 5);
        due("sound", f.sound(1, 30), 5);
        due("sound", f.sound(2, 30), 2);
        due("shut just in time", f.closing(4, 30, -1), 0);
        due("just in time", f.closing(1, 30, -1), 0);
        due("one is late: that of least cost", f.closing(7, 30, -1), 15);
        due("first", f.closing(7, 30, 0), 2);
        due("second", f.closing(7, 30, 1), 1);
        due("third", f.closing(7, 30, 2), 0);
        due("no fourth", f.closing(7, 30, 3), -3);
        due("two", f.closing(3, 30, -1), 15);
        due("two", f.closing(3, 30, 0), 1);
        due("no hurry: the least row", f.closing(7, 0, 0), 0);
        due("no hurry: the least row", f.closing(7, 0, 2), 2);
        due("all are late: the least row", f.closing(7, 9999, 1), 1);
        due("all are late", f.closing(7, 9999, -1), 15 + 20 + 55);
        f.shut(1);
        due("shut", f.closing(7, 30, -1), -2);
        due("not asked for", f.closing(5, 30, -1), 15);
        for (int i = 0; i < 8; i++) {
            f.cut(3 * i % 16 / 2 * 2, 13 + i % 2 * 2, 0, i, 0, 0);
        }
        due("eleven", f.count(1) >= 10, true);
        int open = 0;
        int nine = 0;
        for (int h = 0; h < f.count(1) && open < 9; h++) {
            if (f.holeIs(h, 1) == 1) {
                nine |= 1 << h;
                open++;
            }
        }
        due("nine are too many", f.closing(nine, 0, -1), -3);
        int eight = nine & (nine - 1);
        due("eight", f.closing(eight, 0, -1), 0);
        due("the eighth", f.closing(eight, 0, 7), 31 - Integer.numberOfLeadingZeros(eight));
        due("no ninth", f.closing(eight, 0, 8), -3);
    }

    private static void rescue() {
        about("promise 18");
        HoleFair f = with("bi(1=1);c1(1=1)");
        due("from", f.rescue(-1, 0, 1, -1), -3);
        due("from", f.rescue(256, 0, 1, -1), -3);
        due("to", f.rescue(0, -1, 1, -1), -3);
        due("to", f.rescue(0, 256, 1, -1), -3);
        due("weight", f.rescue(0, 0, 0, -1), -3);
        due("weight", f.rescue(0, 0, 10000, -1), -3);
        due("what", f.rescue(0, 0, 1, -2), -3);
        due("what", f.rescue(0, 0, 1, 501), -3);
        due("no such place", f.rescue(0, 0, 1, 1), -3);
        due("bears", f.rescue(0, 255, 50, -1), 0);
        due("steps", f.rescue(0, 255, 50, 500), 30);
        due("the least row: along x first", f.rescue(0, 255, 50, 15), 15);
        due("then along y", f.rescue(0, 255, 50, 16), 31);
        due("back: along y first", f.rescue(255, 0, 50, 1), 239);
        due("planks for each", f.rescue(0, 255, 51, -1), 31);
        due("just", f.rescue(0, 3, 150, -1), 4);
        due("not by a plank", f.rescue(0, 3, 151, -1), -2);
        due("not by a plank", f.rescue(0, 3, 151, 0), -2);
        for (int y = 0; y < 15; y++) {
            f.ice(3, y, 10);
        }
        due("a plank or a long way: the long way", f.rescue(0, 6, 50, -1), 0);
        due("steps", f.rescue(0, 6, 50, 500), 36);
        due("the least row", f.rescue(0, 6, 50, 1), 1);
        due("the least row", f.rescue(0, 6, 50, 3), 18);
        f.ice(3, 15, 10);
        due("one plank", f.rescue(0, 6, 50, -1), 1);
        due("straight on", f.rescue(0, 6, 50, 500), 6);
        due("not even one", f.rescue(0, 6, 111, -1), -2);
        f.ice(3, 9, 60);
        due("but there", f.rescue(0, 6, 111, 500), 24);
        due("planks on all", f.rescue(0, 6, 111, -1), 25);
        f.ice(3, 9, 99);
        f.cut(3, 9, 0, 0, 0, 0);
        due("a hole there", f.rescue(0, 6, 111, -1), -2);
        due("from a hole", f.rescue(9 * 16 + 3, 6, 1, -1), -2);
        due("to a hole", f.rescue(6, 9 * 16 + 3, 1, -1), -2);
        due("the same hole", f.rescue(9 * 16 + 3, 9 * 16 + 3, 1, -1), -2);
        f.group(3, 0, 20);
        f.settle();
        due("broken", f.rescue(3, 3, 1, -1), -2);
        due("round it", f.rescue(2, 4, 10, 500), 4);
        f.group(8, 8, 49);
        due("a group there weighs nothing", f.rescue(8 * 16 + 7, 8 * 16 + 9, 50, 500), 2);
    }

    /** What can be asked of a way, where there is one and where there is none. */
    private static void rescuePlaces() {
        about("promise 18");
        HoleFair none = new HoleFair();
        due("planks of no way", none.rescue(0, 0, 127, -1), -2);
        due("the first of no way", none.rescue(0, 0, 127, 0), -2);
        due("the last place of no way", none.rescue(0, 0, 127, 255), -2);
        due("steps of no way", none.rescue(0, 0, 127, 500), -2);
        HoleFair way = with("bi(1=1)");
        due("planks of a way", way.rescue(0, 1, 50, -1), 0);
        due("the last of a way", way.rescue(0, 1, 50, 1), 1);
        due("beyond a way", way.rescue(0, 1, 50, 2), -3);
        due("far beyond a way", way.rescue(0, 1, 50, 255), -3);
        due("steps of a way", way.rescue(0, 1, 50, 500), 1);
        int[] never = {256, 257, 499, 501, 502, Integer.MAX_VALUE, -2, Integer.MIN_VALUE};
        for (int what : never) {
            due("no way has place " + what, none.rescue(0, 0, 127, what), -3);
            due("nor where there is one, place " + what, way.rescue(0, 1, 50, what), -3);
        }
        longestWay();
    }

    /** A way to and fro between walls of thin ice, and its far places. */
    private static void longestWay() {
        // ice of 0 on every other row but for its end: there a weight of 101 can't go, even by a plank
        HoleFair f = with("bi*9(1=1)");
        for (int y = 1; y < 16; y += 2) {
            for (int x = 0; x < 16; x++) {
                boolean end = y % 4 == 1 ? x == 15 : x == 0;
                f.ice(x, y, end ? 50 : 0);
            }
        }
        due("steps to and fro", f.rescue(0, 240, 101, 500), 135);
        due("the last place", f.rescue(0, 240, 101, 135), 240);
        due("one beyond it", f.rescue(0, 240, 101, 136), -3);
        due("the last that any has", f.rescue(0, 240, 101, 255), -3);
        due("none has it", f.rescue(0, 240, 101, 256), -3);
    }

    private static void began() {
        about("promise 19");
        HoleFair f = with("b30-n*10(1=1);c1(1=1)");
        f.group(5, 5, 25);
        f.group(6, 5, 25);
        f.group(7, 5, 15);
        f.group(9, 5, 5);
        feed(f, 85, 86);
        due("n", f.began(0, 0), -3);
        due("n", f.began(41, 0), -3);
        due("n", f.began(21, 0), -3);
        due("what", f.began(2, 2), -3);
        due("what", f.began(2, -1), -3);
        due("the tape stays", f.count(4), 20);
        due("two", f.began(2, 0), 2);
        due("emptied", f.count(4), 0);
        feed(f, 86, 85);
        due("the lowest", f.began(2, 1), 85);
        feed(f, 85);
        due("one alone does not", f.began(1, 0), 0);
        feed(f, 85);
        due("none", f.began(1, 1), -1);
        feed(f, 101, 85, 86);
        due("a square beside", f.began(3, 0), 1);
        feed(f, 101, 85, 86);
        due("a square beside", f.began(3, 1), 101);
        feed(f, 0);
        due("far away", f.began(1, 1), 0);
        feed(f, 0, 1);
        due("not two", f.began(2, 0), 0);
        feed(f, 89);
        due("just that one", f.began(1, 1), 89);
        feed(f, 3, 4, 3);
        due("twice", f.began(3, 0), -2);
        due("emptied", f.count(4), 0);
        due("nothing is changed", f.count(6), 0);
        due("nothing is changed", f.square(6, 5, 4), 0);
        due("nothing is changed", f.groupIs(0, 0), 85);
        f.cut(12, 12, 0, 0, 0, 0);
        feed(f, 12 * 16 + 12);
        due("a hole", f.began(1, 0), -2);
        f.group(1, 14, 31);
        feed(f, 225);
        due("what is over falls by itself", f.began(1, 0), 1);
        feed(f, 0, 225);
        due("with any", f.began(2, 1), 0);
        due("it falls", f.settle(), 1);
        feed(f, 225);
        due("broken", f.began(1, 0), -2);
        int[] forty = new int[40];
        for (int i = 0; i < 40; i++) {
            forty[i] = i;
        }
        feed(f, forty);
        due("forty", f.began(40, 0), 0);
        feed(f, forty);
        f.feed(-1, -1, -1, -1, -1);
        due("not forty-one", f.began(41, 0), -3);
        f = with("b30-n*10(1=1);c1(1=1)");
        f.group(5, 5, 25);
        f.group(6, 5, 25);
        feed(f, 0, 85);
        due("as many, but not the same ones", f.began(2, 0), 0);
        feed(f, 85, 0);
        due("as many, but not the same ones", f.began(2, 0), 0);
    }

    private static void fee() {
        about("promise 20");
        HoleFair f = with("bi(1=1);c1(1=1)");
        feed(f, 0, 9, 1, 5, 2, 7);
        due("n", f.fee(0, 0, -1), -3);
        due("n", f.fee(11, 0, -1), -3);
        due("load", f.fee(1, -1, -1), -3);
        due("load", f.fee(1, 10000, -1), -3);
        due("what", f.fee(3, 0, 3), -3);
        due("what", f.fee(3, 0, -2), -3);
        due("the tape stays", f.count(4), 20);
        due("all bear it", f.fee(3, 50, -1), 0);
        due("emptied", f.count(4), 0);
        due("no tape", f.fee(1, 0, -1), -3);
        feed(f, 0, 9, 1, 5, 2, 7);
        due("none bears it", f.fee(3, 51, -1), 21);
        feed(f, 0, 9, 1, 5, 2, 7);
        due("its worth", f.fee(3, 51, 2), 7);
        f.ice(1, 0, 60);
        int[] fees = {4, 0, 2};
        for (int i = 0; i < 3; i++) {
            feed(f, 0, 9, 1, 5, 2, 7);
            due("against the best that does", f.fee(3, 51, i), fees[i]);
        }
        feed(f, 0, 9, 1, 5, 2, 7);
        due("together", f.fee(3, 51, -1), 6);
        feed(f, 0, 4, 1, 5, 2, 5);
        due("not worth more", f.fee(3, 51, -1), 0);
        feed(f, 0, 4, 1, 0, 2, 5);
        due("the best is worth 0", f.fee(3, 51, -1), 9);
        feed(f, 0, 4, 1, 0, 0, 5);
        due("twice", f.fee(3, 51, -1), -2);
        due("emptied", f.count(4), 0);
        feed(f, 0, 4, 1, 1, 2, 5);
        due("just bears it", f.fee(3, 60, -1), 3 + 4);
        f.cut(4, 4, 0, 0, 0, 0);
        feed(f, 68, 1);
        due("a hole", f.fee(1, 51, -1), -2);
        f.group(7, 7, 51);
        f.settle();
        feed(f, 0, 1, 119, 1);
        due("broken", f.fee(2, 51, -1), -2);
    }

    private static void row() {
        about("promise 21");
        rowsByAllSteps();
        HoleFair f = with("c1(1=1);b9(1=1)");
        due("x", f.row(-1, 0), -1);
        due("x", f.row(16, 0), -1);
        due("y", f.row(0, -1), -1);
        due("y", f.row(0, 16), -1);
        due("no holes", f.row(0, 0), 0);
        f.cut(4, 4, 0, 0, 0, 0);
        due("one hole", f.row(5, 5), 0);
        f.cut(7, 5, 0, 0, 0, 0);
        due("at one end", f.row(10, 6), 1);
        due("at the other", f.row(1, 3), 1);
        due("no middle", f.row(5, 4), 0);
        due("where one is", f.row(4, 4), 0);
        f.cut(9, 15, 0, 0, 0, 0);
        f.cut(13, 15, 0, 0, 0, 0);
        due("the middle", f.row(11, 15), 1);
        due("steps of 4", f.row(5, 15), 0);
        f.cut(0, 15, 0, 0, 0, 0);
        f.cut(6, 9, 0, 0, 0, 0);
        due("steps of 3", f.row(3, 12), 1);
        due("steps of 6", f.row(12, 3), 0);
        due("cut refuses it", f.cut(3, 12, 0, 0, 0, 0), -3);
        f.shut(5);
        due("shut", f.row(3, 12), 0);
        due("cut lets it", f.cut(3, 12, 0, 0, 0, 0), 6);
    }

    private static void rowsByAllSteps() {
        for (int dx = -4; dx <= 4; dx++) {
            for (int dy = -4; dy <= 4; dy++) {
                if (dx == 0 && dy == 0) {
                    continue;
                }
                int want = Math.abs(dx) <= 3 && Math.abs(dy) <= 3 ? 1 : 0;
                HoleFair f = with("c1(1=1)");
                f.cut(8 + dx, 8 + dy, 0, 0, 0, 0);
                f.cut(8 - dx, 8 - dy, 0, 0, 0, 0);
                due("the middle by " + dx + ", " + dy, f.row(8, 8), want);
                // 4 steps of 4 would leave the lake, so the ends stand about the middle
                f = with("c1(1=1)");
                f.cut(8, 8, 0, 0, 0, 0);
                f.cut(8 - dx, 8 - dy, 0, 0, 0, 0);
                if (8 + dx < 16 && 8 + dy < 16) {
                    due("an end by " + dx + ", " + dy, f.row(8 + dx, 8 + dy), want);
                }
                f.cut(0, 0, 0, 0, 0, 0);
                feed(f, 16 * (8 + dy) + 8 + dx, 7);
                boolean beside = Math.abs(dx) <= 1 && Math.abs(dy) <= 1;
                due("places by " + dx + ", " + dy, f.places(1, -1), want == 1 || beside ? 0 : 7);
                feed(f, 16 * (8 + dy) + 8 + dx, 7, 16 * (8 + 2 * dy & 15) + (8 + 2 * dx & 15), 0);
                due("places by " + dx + ", " + dy, f.places(2, -1), want == 1 || beside ? 0 : 7);
            }
        }
    }

    private static void seed() {
        about("promise 22");
        HoleFair f = new HoleFair();
        due("first", f.count(5), 1);
        due("least", f.seed(0), true);
        due("x", f.count(5), 0);
        due("most", f.seed(65535), true);
        due("x", f.count(5), 65535);
        due("below", f.seed(-1), false);
        due("beyond", f.seed(65536), false);
        due("unchanged", f.count(5), 65535);
        f.draw(1);
        due("next", f.count(5), (25173L * 65535 + 13849) % 65536);
    }

    private static void draw() {
        about("promise 23");
        HoleFair f = with("b50(1=1);t1(1=1);c1(1=1)");
        due("n", f.draw(0), -1);
        due("n", f.draw(61), -1);
        due("unchanged", f.count(5), 1);
        for (int i = 0; i < 8; i++) {
            f.group(8, 8, 1);
        }
        long x = 1;
        int[] at = {8, 8, 8, 8, 8, 8, 8, 8};
        int[] up = {8, 8, 8, 8, 8, 8, 8, 8};
        for (int i = 0; i < 160; i++) {
            f.draw(1);
            x = (25173 * x + 13849) % 65536;
            int g = (int) (x % 8);
            int way = (int) (x / 8 % 4);
            at[g] = Math.max(0, Math.min(15, at[g] + (way == 1 ? 1 : way == 3 ? -1 : 0)));
            up[g] = Math.max(0, Math.min(15, up[g] + (way == 0 ? 1 : way == 2 ? -1 : 0)));
            due("x", f.count(5), x);
            due("group", f.groupIs(g, 0), 16 * up[g] + at[g]);
        }
        due("minutes", f.count(0), 160);
        due("thawed", f.square(0, 0, 0), 0);
        law(f, "b0(1=1)");
        due("all drown", f.draw(1), 8);
        due("no more", f.draw(5), 0);
        // X 1 goes to 39022: group 6, direction 1
        f = with("b50(1=1);c1(1=1)");
        for (int i = 0; i < 7; i++) {
            f.group(3, 3, 1);
        }
        f.cut(4, 3, 0, 0, 0, 0);
        f.draw(1);
        due("x", f.count(5), 39022);
        due("a hole in the way", f.groupIs(6, 0), 51);
        f.shut(0);
        f.seed(1);
        f.draw(1);
        due("no hole in the way", f.groupIs(6, 0), 52);
    }

    private static void keepAndUndo() {
        about("promise 24");
        HoleFair f = with("b10-n(1=1);t1(1=1);c1(1=1)");
        f.group(2, 2, 11);
        f.group(5, 5, 3);
        f.cut(9, 9, 1, 2, 3, 4);
        f.settle();
        f.minutes(2);
        f.seed(77);
        due("broken", f.keep(), 1);
        about("promise 25");
        f.ice(2, 2, 9);
        f.ice(0, 0, 3);
        f.shut(0);
        f.cut(12, 9, 0, 0, 0, 0);
        f.group(7, 7, 9);
        f.draw(9);
        law(f, "b99(1=1);c1(1=1)");
        f.feed(1, 2, 3, 4, 5);
        for (int i = 0; i < 2; i++) {
            due("undone", f.undo(), true);
            due("thick", f.square(0, 0, 0), 48);
            due("broken", f.square(2, 2, 1), 1);
            due("gaps", f.square(1, 1, 4), 1);
            due("gaps", f.square(10, 10, 4), 1);
            due("warmth", f.square(10, 10, 5), 2);
            due("no warmth", f.square(12, 9, 4), 0);
            due("holes", f.count(1), 1);
            due("open", f.holeIs(0, 1), 1);
            due("groups", f.count(2), 2);
            due("drowned", f.groupIs(0, 0), -2);
            due("group", f.groupIs(1, 0), 85);
            due("minute", f.count(0), 2);
            due("x", f.count(5), 77);
            due("the law stays", f.square(15, 15, 2), 99);
            due("the tape stays", f.count(4), 20);
            f.minutes(3);
            f.cut(1, 9, 0, 0, 0, 0);
        }
        due("kept anew", f.keep(), 1);
        f.minutes(1);
        f.undo();
        due("the last kept", f.count(0), 5);
        due("the last kept", f.count(1), 2);
    }

    private static void check() {
        about("promise 26");
        HoleFair f = with("b10(1=1);c1(1=1)");
        f.cut(1, 3, 0, 0, 0, 0);
        f.group(2, 3, 11);
        f.settle();
        f.ice(15, 3, 99);
        due("y", f.check(-1, 0), -2);
        due("y", f.check(16, 0), -2);
        due("n", f.check(3, -1), -2);
        due("n", f.check(3, 17), -2);
        due("no tape", f.check(3, 1), -2);
        int[] right = {50, -2, -1, 50, 50, 50, 50, 50, 50, 50, 50, 50, 50, 50, 50, 99};
        numbers(f, right);
        due("n of so many", f.check(3, 17), -2);
        due("the tape stays", f.count(4), 80);
        due("right", f.check(3, 16), -1);
        due("emptied", f.count(4), 0);
        for (int i = 0; i < 16; i++) {
            int[] off = right.clone();
            off[i] ^= 1 << i * 2;
            numbers(f, off);
            due("not so", f.check(3, 16), i);
            due("emptied", f.count(4), 0);
            numbers(f, off);
            due("not asked", f.check(3, i), -1);
        }
        numbers(f, 50, 50, 50);
        due("the first", f.check(3, 3), 1);
        numbers(f, 50, -2, -1, 50, 50);
        due("five of five", f.check(3, 5), -1);
        numbers(f, 50, 50, 50, 50, 50);
        due("six of five", f.check(3, 6), -2);
        due("none", f.check(3, 0), -1);
        due("emptied", f.count(4), 0);
    }

    private static void count() {
        about("promise 27");
        HoleFair f = with("b10(1=1);c1(1=1);t1(1=1)");
        f.cut(1, 3, 0, 0, 0, 0);
        f.cut(5, 3, 0, 0, 0, 0);
        f.shut(0);
        for (int i = 0; i < 5; i++) {
            f.group(2 * i, 8, i < 4 ? 11 : 3);
        }
        f.group(0, 8, 20);
        f.group(0, 0, 11);
        f.group(15, 15, 11);
        f.minutes(7);
        f.seed(9);
        f.feed(0, 0, 0, 0, 0);
        int[] want = {7, 2, 8, 3, 20, 9, 6, 7};
        for (int i = 0; i < 8; i++) {
            due("count " + i, f.count(i), want[i]);
        }
        due("below", f.count(-1), -1);
        due("beyond", f.count(8), -1);
    }
}
