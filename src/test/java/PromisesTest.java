/** Every promise of the document, by hand: ordinary calls, the edges that it names, and wrong ones. */
public final class PromisesTest {
    // X from a new object on: 307 19409 3285 3508 5965 4471 24993 8231 18536 4154 387 2903 3853 15562 22307 3890 5620.

    private static final String TOLD = """
        promise 1: a new object
        is(0) = 0
        is(1) = 307
        is(2) = 0
        is(3) = 0
        is(4) = 0
        about(0) = 0
        about(1) = 0
        about(2) = 0
        about(3) = -1
        about(4) = 0
        about(5) = 0
        about(6) = 0
        about(7) = 0
        book(-1, 0) = 0
        undo() = -1
        frozen() = 0
        rests() = 0
        stables() = 1
        joins(-1) = 0
        whose() = 0

        promise 1: the image of a new object is ice
        name(1, 1)
        family(1, 1)
        read melts 1; = 0
        by(0)
        hour(3)
        eddy(2, true)
        stone(2, true)
        half(1)
        said(0, 1)
        quota(50)
        wants(0, 0, 4)
        back() = 0
        is(1) = 307
        is(3) = 0
        is(4) = 0
        about(0) = 0
        about(1) = 0
        about(2) = 0
        about(3) = -1
        about(4) = 0
        about(5) = 0
        about(6) = 0
        name(1, 1) = 0
        family(9, 1) = 0
        gladdest(0) = -1
        coalitions() = 0
        quota(9)
        coalitions() = 1

        promise 2: names are told one by one, six at most
        name(0, 0) = -1
        name(-1, 0) = -1
        name(-12, 0) = -1
        name(10, 0) = -1
        name(90909, 0) = -1
        name(100000, 0) = -1
        name(111111, 0) = -1
        name(1, -1) = -1
        name(1, 10) = -1
        about(0) = 0
        name(1, 0) = 0
        name(99999, 9) = 1
        name(1, 0) = 2
        name(12, 3) = 3
        name(123, 3) = 4
        name(1234, 3) = 5
        name(5, 5) = -1
        about(0) = 6
        of(1, 2) = 5
        of(5, 2) = 4
        frozen() = 63

        promise 3: families are told one by one, five at most
        family(0, 0) = -1
        family(10, 0) = -1
        family(1, -1) = -1
        family(1, 10) = -1
        family(1, 0) = 0
        family(9, 9) = 1
        family(2, 9) = 2
        family(2, 9) = 3
        family(2, 9) = 4
        family(2, 9) = -1
        about(1) = 5
        ofFamily(1, 0) = 9
        ofFamily(1, 1) = 9

        promise 4: eddies are told, or none
        eddy(-1, true) = false
        eddy(10, true) = false
        eddy(10, false) = false
        eddy(0, true) = true
        eddy(9, true) = true
        eddy(9, true) = true
        is(4) = 513
        eddy(0, false) = true
        eddy(0, false) = true
        is(4) = 512
        about(4) = 0

        promise 4: in an eddy a draw by 2 says whether a name stays, and only there
        name(12, 9)
        eddy(0, true)
        hour(2)
        call(0)
        hour(1)
        is(2) = 5
        is(1) = 5965
        of(0, 3) = 0
        hour(1)
        is(2) = 5
        of(0, 3) = 2
        is(1) = 24993
        hour(1)
        is(1) = 8231
        of(0, 3) = 3
        """;

    private static final String STEPS = """
        promise 10: called into cell 0, if it is in the ice
        call(0) = false
        name(12, 9)
        call(-1) = false
        call(1) = false
        call(0) = true
        of(0, 3) = 0
        about(4) = 1
        call(0) = false
        about(4) = 1
        hour(5)
        of(0, 3) = 10
        call(0) = false

        promise 11: a stone laid or taken away, if it isn't so
        stone(-1, true) = false
        stone(10, true) = false
        stone(10, false) = false
        stone(0, false) = false
        stone(0, true) = true
        stone(9, true) = true
        stone(9, true) = false
        is(3) = 513
        stone(0, false) = true
        stone(0, false) = false
        is(3) = 512
        about(4) = 3

        promise 12: a family stands elsewhere
        stand(0, 3) = false
        family(4, 3)
        stand(0, 3) = false
        stand(0, 10) = false
        stand(0, -1) = false
        stand(1, 4) = false
        stand(-1, 4) = false
        about(4) = 0
        stand(0, 4) = true
        ofFamily(0, 1) = 4
        about(4) = 1

        promise 13: put back into cell 0, if it is with a family
        name(12, 9)
        family(2, 2)
        sink(0) = false
        call(0)
        sink(0) = false
        hour(1) = 1
        of(0, 3) = 20
        sink(-1) = false
        sink(1) = false
        sink(0) = true
        of(0, 3) = 0
        of(0, 2) = 2
        ofFamily(0, 2) = 0
        about(4) = 3
        sink(0) = false

        promise 13: the size stays
        name(12345, 9)
        read breaks 10; = 0
        by(0)
        family(3, 2)
        call(0)
        stone(2, true)
        hour(1) = 1
        sink(0) = true
        of(0, 2) = 3

        promise 14: hours, wrong ones and the last ones
        hour(0) = -1
        hour(-1) = -1
        hour(61) = -1
        is(0) = 0
        166 times hour(60) = 0
        is(0) = 9960
        hour(40) = -1
        is(0) = 9960
        about(4) = 30
        hour(38) = 0
        hour(2) = -1
        hour(1) = 0
        is(0) = 9999
        hour(1) = -1
        name(1, 0)
        springs(0, 1) = 9999
        foretold(60, 0, 0) = -1

        promise 14: what melts comes into cell 0 and no more, in the order of numbers
        name(12, 7)
        name(12, 6)
        family(9, 0)
        family(9, 2)
        hour(1) = 0
        is(2) = 7
        is(1) = 19409
        of(0, 3) = -1
        of(1, 3) = 0
        hour(1) = 1
        is(2) = 9
        of(0, 3) = 0
        of(1, 3) = 21
        is(0) = 2

        promise 14: two cells if it is warmer than 4, else one; at cell 9 the mill
        name(12, 9)
        call(0)
        hour(1)
        of(0, 3) = 2
        hour(1)
        of(0, 3) = 4
        hour(1)
        is(2) = 5
        of(0, 3) = 6
        hour(1)
        of(0, 3) = 8
        family(9, 9)
        stone(9, true)
        is(1) = 5965
        hour(1) = 0
        of(0, 3) = 10
        is(1) = 4471
        of(0, 2) = 2
        name(34, 9)
        call(1)
        hour(1)
        is(2) = 1
        of(1, 3) = 1
        hour(20) = 0
        of(0, 3) = 10

        promise 14: at a warmth of 4 one cell alone
        name(12, 9)
        hour(9)
        call(0)
        hour(1)
        is(2) = 4
        of(0, 3) = 1

        promise 14: at a stone a draw by 10 below breaks halves it, what isn't whole upwards
        name(12345, 9)
        read breaks 9; = 0
        by(0)
        call(0)
        stone(1, true)
        stone(2, true)
        hour(1)
        of(0, 3) = 2
        of(0, 2) = 5
        is(1) = 3285
        undo()
        read breaks 10; = 1
        by(1)
        hour(1)
        of(0, 2) = 3
        of(0, 4) = 123
        is(1) = 3285
        book(-1, 0) = 1
        book(0, 0) = 0
        book(0, 1) = 0
        book(0, 2) = 2
        book(0, 3) = 2
        stone(4, true)
        hour(1)
        is(2) = 5
        of(0, 2) = 2
        stone(6, true)
        hour(1)
        is(2) = 5
        of(0, 3) = 6
        of(0, 2) = 1
        is(1) = 24993
        book(2, 0) = 2
        book(2, 3) = 6

        promise 14: what has one sound breaks no more and draws nothing
        name(1, 9)
        call(0)
        stone(2, true)
        hour(1)
        of(0, 3) = 2
        is(1) = 19409

        promise 14: breaks of 0 draw all the same
        name(12, 9)
        read breaks 0; = 0
        by(0)
        call(0)
        stone(2, true)
        hour(1)
        is(1) = 3285
        of(0, 2) = 2

        promise 14: the first family there whose net is wide enough and that may claim
        name(123, 9)
        name(12, 9)
        family(2, 2)
        family(3, 2)
        family(9, 2)
        call(0)
        call(1)
        hour(1) = 2
        of(0, 3) = 21
        of(1, 3) = 20
        undo()
        read claims house-1; = 0
        by(0)
        hour(1) = 2
        of(0, 3) = 22
        of(1, 3) = 22
        undo()
        read claims 0; = 1
        by(1)
        hour(1) = 0
        of(0, 3) = 2

        promise 14: the net counts by the size behind the stone
        name(1234, 9)
        read breaks 10; = 0
        by(0)
        family(2, 2)
        stone(2, true)
        call(0)
        hour(1) = 1
        of(0, 2) = 2
        ledger(2) = 1
        ledger(0) = 1

        promise 14: one that stays can be claimed, and no stone meets it
        name(12, 9)
        family(2, 0)
        hour(2)
        call(0)
        stone(0, true)
        eddy(0, true)
        hour(1) = 1
        is(1) = 5965
        of(0, 3) = 20

        promise 17: steps are taken back one by one, thirty at most
        undo() = -1
        name(12, 0)
        family(2, 4)
        call(0)
        stone(3, true)
        stand(0, 5)
        name(345, 1)
        family(3, 6)
        stand(1, 7)
        hour(2)
        about(4) = 6
        undo() = 5
        is(0) = 1
        is(1) = 19409
        is(2) = 7
        undo() = 4
        is(0) = 0
        is(1) = 307
        is(2) = 0
        of(0, 3) = 0
        of(1, 3) = -1
        undo() = 3
        ofFamily(1, 1) = 6
        undo() = 2
        ofFamily(0, 1) = 4
        ofFamily(1, 1) = 6
        undo() = 1
        is(3) = 0
        undo() = 0
        of(0, 3) = -1
        of(1, 2) = 3
        about(0) = 2
        about(1) = 2
        undo() = -1
        hour(60)
        about(4) = 30
        29 times undo()
        is(0) = 31
        undo() = 0
        is(0) = 30
        undo() = -1
        is(0) = 30

        promise 17: what is told is not taken back, the book is
        name(12, 0)
        family(2, 2)
        call(0)
        hour(1) = 1
        wants(0, 0, 3)
        half(12)
        eddy(3, true)
        quota(5)
        book(-1, 0) = 1
        undo() = 1
        book(-1, 0) = 0
        gladdest(0) = 0
        about(5) = 1
        is(4) = 8
        """;

    private static final String TEXTS = """
        promise 5: twenty bytes, the highest first, three hundred at most
        15 times feed(1835363444, 1931489595, 538976288, 538976288, 538976288)
        about(7) = 300
        feed(0, 0, 0, 0, 0) = -1
        about(7) = 300
        end(281) = 281
        feed(0, 0, 0, 0, 0) = -1
        end(280) = 280
        feed(0, 0, 0, 0, 0) = 300
        end(0) = 0
        feed(1835363444, 1931489595, 538976288, 538976288, 538976288) = 20
        text() = 0
        about(7) = 0
        feed(-1, -1, -1, -1, -1) = 20
        text() = -1
        fault(0) = 1
        fault(1) = 0

        promise 6: the tape's first bytes alone
        end(0) = 0
        end(1) = -1
        end(-1) = -1
        feed(1, 2, 3, 4, 5) = 20
        end(21) = -1
        end(-1) = -1
        about(7) = 20
        end(20) = 20
        end(7) = 7
        end(8) = -1
        about(7) = 7

        promise 7: texts, four at most; the tape is empty then, and stays if there are four
        read = 0
        read melts 1; = 1
        read melts 1 = -1
        about(7) = 0
        read \\n \\n = 2
        read call 0; = 3
        about(2) = 4
        fault(0) = 0
        read melts = -1
        about(7) = 5
        fault(0) = 0
        fault(1) = -1
        about(2) = 4

        promise 7: three hundred tokens
        15 times feed(993737531, 993737531, 993737531, 993737531, 993737531)
        about(7) = 300
        text() = -1
        fault(0) = 1
        fault(1) = 0
        about(7) = 0

        promise 8: the fault of the latest text that was read
        fault(0) = -1
        fault(1) = -1
        fault(2) = -1
        read melts 1 = -1
        fault(0) = 1
        fault(1) = 7
        fault(2) = -1
        fault(-1) = -1
        read melts 1; = 0
        fault(0) = 0
        fault(1) = -1
        image()
        read ; = -1
        back()
        fault(0) = 1
        fault(1) = 0

        promise 8: fault 1, where nothing of the kind can stand
        read Melts 1; = -1
        fault(1) = 0
        read melts foo; = -1
        fault(0) = 1
        fault(1) = 6
        read melts 1\\t; = -1
        fault(0) = 1
        fault(1) = 7
        read melts 1 ! ; = -1
        fault(0) = 1
        fault(1) = 8
        read melts \\x80; = -1
        fault(0) = 1
        read melts 1 10000; = -1
        fault(0) = 1
        fault(1) = 8
        read melts 1; cell 2; = -1
        fault(0) = 1
        fault(1) = 9
        read melts 1;  = 0
        read melts 1  = -1
        fault(0) = 1
        fault(1) = 8
        read melts if 1<2 then 3 else 4; = -1
        fault(0) = 1
        fault(1) = 26
        read melts if (1<2) then 3 else 4 end; = -1
        fault(0) = 1
        fault(1) = 11
        read melts if 1=>2 then 3 else 4 end; = -1
        fault(0) = 1
        fault(1) = 11
        read melts 1 cell; = -1
        fault(0) = 1
        fault(1) = 8
        read name 12 at 3; = -1
        fault(0) = 1
        fault(1) = 8
        read name x in 3; = -1
        fault(0) = 1
        fault(1) = 5
        read hour = -1
        fault(0) = 1
        fault(1) = 4
        read melts and 1; = -1
        fault(0) = 1
        fault(1) = 6
        read melts not 1<2; = -1
        fault(0) = 1
        fault(1) = 6

        promise 8: fault 2, a number out of its bounds
        read melts 10000; = -1
        fault(0) = 2
        fault(1) = 6
        read melts 99999999999999999999; = -1
        fault(0) = 2
        read melts 9999; = 0
        read melts 00009999; = 1
        read name 10000 in 0; = -1
        fault(0) = 2
        fault(1) = 5
        read name 0 in 0; = -1
        fault(0) = 2
        read hour 0; = -1
        fault(0) = 2
        fault(1) = 5
        read hour 60;name 9999 in 9;family 9 at 9;call 5;sink 5;lay 9;take 9;stand 4 at 9; = 2

        promise 8: fault 3, the ninth that is open around another
        read melts ((((((((1)))))))); = 0
        read melts --------1; = 1
        read melts ---------1; = -1
        fault(0) = 3
        fault(1) = 14
        read melts if not not not not not not not 1<2 then 1 else 2 end; = 2
        read melts if not not not not not not not not 1<2 then 1 else 2 end; = -1
        fault(0) = 3
        fault(1) = 37
        read melts digit 1 of digit 1 of digit 1 of digit 1 of digit 1 of digit 1 of digit 1 of digit 1 of digit 1 of 1; = -1
        fault(0) = 3
        fault(1) = 94
        read melts digit ((((((((1)))))))) of 1; = -1
        fault(0) = 3
        fault(1) = 19
        read melts ((((((((hour))))))))+((((((((ice 1))))))))); = -1
        fault(0) = 3
        fault(1) = 35
        read melts ice(((((((1)))))))+ice(((((((1))))))); = 3

        promise 8: faults 4, 5, 6 and 7, and of one token the least
        read breaks 1;claims 1;breaks 1; = -1
        fault(0) = 4
        fault(1) = 18
        read melts net; = -1
        fault(0) = 5
        read breaks cell+house; = -1
        fault(0) = 5
        fault(1) = 12
        read claims cell+house+net;breaks cell; = 0
        read lay 1;lay 1;lay 1;lay 1;lay 1;lay 1;lay 1;lay 1;lay 1;lay 1;lay 1;lay 1;lay 1;lay 1;lay 1;lay 1;lay 1;lay 1;lay 1;lay 1;lay 1;lay 1;lay 1;lay 1; = 1
        read melts 1;lay 1;lay 1;lay 1;lay 1;lay 1;lay 1;lay 1;lay 1;lay 1;lay 1;lay 1;lay 1;lay 1;lay 1;lay 1;lay 1;lay 1;lay 1;lay 1;lay 1;lay 1;lay 1;lay 1;melts = -1
        fault(0) = 4
        read lay 1;lay 1;lay 1;lay 1;lay 1;lay 1;lay 1;lay 1;lay 1;lay 1;lay 1;lay 1;lay 1;lay 1;lay 1;lay 1;lay 1;lay 1;lay 1;lay 1;lay 1;lay 1;lay 1;lay 1;melts = -1
        fault(0) = 6
        fault(1) = 144
        read lay 1;lay 1;lay 1;lay 1;lay 1;lay 1;lay 1;lay 1;lay 1;lay 1;lay 1;lay 1;lay 1;lay 1;lay 1;lay 1;lay 1;lay 1;lay 1;lay 1;lay 1;lay 1;lay 1;lay 1;; = -1
        fault(0) = 1
        read name 101 in 2; = -1
        fault(0) = 7
        fault(1) = 5
        read name 10 = -1
        fault(0) = 7

        promise 8: nothing behind the tape's end is read
        tape melts 12;
        end(7)
        text() = -1
        fault(1) = 7
        tape melts hours;
        end(10)
        text() = -1
        fault(1) = 10
        tape melts if 1<=2
        end(11)
        text() = -1
        fault(1) = 11
        read hourA 1; = -1
        fault(1) = 0
        read hourZ 1; = -1
        fault(1) = 0
        read melts if 1)2 then 3 else 4 end; = -1
        fault(0) = 1
        fault(1) = 10
        read melts ice ice ice ice ice ice ice ice ice 1; = -1
        fault(0) = 3
        fault(1) = 38
        read stand 5 at 1; = -1
        fault(0) = 2
        read stand 0 at 10; = -1
        fault(0) = 2
        fault(1) = 11
        read family 1 at 10; = -1
        fault(0) = 2
        read name 1 in 10; = -1
        fault(0) = 2
        read lay 10; = -1
        fault(0) = 2
        read take 10; = -1
        fault(0) = 2
        read call 6; = -1
        fault(0) = 2
        read sink 6; = -1
        fault(0) = 2
        read name 1 in 0;family 1 at 0;stand 0 at 0;call 0;sink 0;lay 0;take 0; = 0

        promise 9: the text that rules
        name(12, 3)
        by(0) = false
        by(-1) = true
        by(-2) = false
        read melts 7; = 0
        read melts 8; = 1
        law(0, 0, 0) = -3
        by(1) = true
        about(3) = 1
        law(0, 0, 0) = 8
        by(2) = false
        about(3) = 1
        by(0) = true
        law(0, 0, 0) = 7
        by(-1) = true
        about(3) = -1
        law(0, 0, 0) = -3

        promise 15: played clause by clause, up to the one that can't be
        played(0) = -2
        played(-1) = -2
        read melts 3;name 12 in 3;family 4 at 5;claims 1;call 0;stone 1; = -1
        read melts 3;name 12 in 3;family 4 at 5;claims 1;call 0;lay 1;stand 0 at 6;hour 2;take 1; = 0
        played(1) = -2
        played(0) = -1
        about(0) = 1
        about(1) = 1
        about(3) = -1
        about(4) = 6
        is(0) = 2
        is(3) = 0
        ofFamily(0, 1) = 6
        of(0, 3) = 4
        played(0) = 4
        about(0) = 2
        about(1) = 2

        promise 15: each kind that can't be
        read call 0; = 0
        read take 3; = 1
        read stand 0 at 1; = 2
        read hour 1;lay 1;lay 1;hour 1; = 3
        played(0) = 0
        played(1) = 0
        played(2) = 0
        played(3) = 2
        is(0) = 1
        back()
        read name 1 in 1; = 0
        read family 1 at 1; = 1
        6 times played(0) = -1
        played(0) = 0
        5 times played(1) = -1
        played(1) = 0
        read sink 0; = 2
        played(2) = 0

        promise 15: nothing of a text with a fault is played
        read lay 5;lay 6;lay 7;lay 8; x = -1
        read hour 1; = 0
        played(0) = -1
        is(0) = 1
        is(3) = 0

        promise 15: of so many hours those that can pass do
        166 times hour(60)
        hour(30)
        read hour 9;hour 20;lay 1; = 0
        played(0) = 1
        is(0) = 9999
        is(3) = 0
        played(0) = 0
        """;

    private static final String LAWS = """
        promise 20: without a text, and for others
        name(12, 3)
        family(2, 2)
        law(0, 0, 0) = -3
        law(0, 0, 1) = 3
        law(0, 0, 2) = 1
        law(0, 9, 0) = -3
        law(0, -1, 1) = 3
        law(0, 1, 2) = -100
        law(0, -1, 2) = -100
        law(1, 0, 0) = -100
        law(-1, 0, 0) = -100
        law(0, 0, 3) = -100
        law(0, 0, -1) = -100

        promise 20: what the names of the language stand for
        name(123, 4)
        name(98, 6)
        family(5, 1)
        family(7, 9)
        read claims hour*10+warm; = 0
        read claims layer*10+size; = 1
        read claims who*10+cell; = 2
        read claims net*10+house; = 3
        hour(2)
        call(1)
        hour(1)
        by(0)
        law(1, 0, 2) = 35
        by(1)
        law(0, 0, 2) = 43
        law(1, 0, 2) = 62
        by(2)
        law(0, 0, 2) = 4
        law(1, 1, 2) = 14
        by(3)
        law(0, 0, 2) = 50
        law(0, 1, 2) = 71
        hour(10)
        by(2)
        of(1, 3) = 10
        law(1, 0, 2) = 10

        promise 20: sounds as told, size as it is
        name(1234, 9)
        read breaks 10; = 0
        by(0)
        stone(2, true)
        call(0)
        hour(1)
        of(0, 2) = 2
        read melts sounds-1200-size; = 1
        by(1)
        law(0, 0, 0) = 32

        promise 20: bounds of what a law says
        name(1, 0)
        family(1, 1)
        read melts 100;breaks 11;claims 100; = 0
        read melts -100;breaks -1;claims -100; = 1
        by(0)
        law(0, 0, 0) = 99
        law(0, 0, 1) = 10
        law(0, 0, 2) = 99
        by(1)
        law(0, 0, 0) = -99
        law(0, 0, 1) = 0
        law(0, 0, 2) = -99
        read claims 5; = 2
        by(2)
        law(0, 0, 0) = 0
        law(0, 0, 1) = 3
        law(0, 0, 2) = 5

        promise 20: sums from the left, cut towards 0, bounded at each step
        name(1, 0)
        read melts 20-5-3; = 0
        by(0)
        law(0, 0, 0) = 12
        read melts 100/7*3; = 1
        by(1)
        law(0, 0, 0) = 42
        read melts -7/2*10+5/0; = 2
        by(2)
        law(0, 0, 0) = -30
        read melts 9999*9999/9999; = 3
        by(3)
        law(0, 0, 0) = 99
        back()
        name(1, 0)
        read melts 9999*9999/100000+1; = -1
        read melts 9999*9999/5000/5; = 0
        by(0)
        law(0, 0, 0) = 40
        read melts -9999*9999/5000/5; = 1
        by(1)
        law(0, 0, 0) = -40
        read melts (9999*9999+9999*9999-9999*9999)/9999; = 2
        by(2)
        law(0, 0, 0) = 0
        read melts 1+2*3-(1+2)*2; = 3
        by(3)
        law(0, 0, 0) = 1

        promise 20: the bounds to the one
        name(1, 0)
        read melts 9999*9999-9999*100-50; = 0
        by(0)
        law(0, 0, 0) = 50
        read melts -9999*9999+9999*100+50; = 1
        by(1)
        law(0, 0, 0) = -50

        promise 7, 20: a tape of three hundred bytes
        name(1, 0)
        read melts 1+1-1+1-1+1-1+1-1+1-1+1-1+1-1+1-1+1-1+1-1+1-1+1-1+1-1+1-1+1-1+1-1+1-1+1-1+1-1+1-1+1-1+1-1+1-1+1-1+1-1+1-1+1-1+1-1+1-1+1-1+1-1+1-1+1-1+1-1+1-1+1-1+1-1+1-1+1-1+1-1+1-1+1-1+1-1+1-1+1-1+1-1+1-1+1-1+1-1+1-1+1-1+1-1+1-1+1-1+1-1+1-1+1-1+1-1+1-1+1-1+1-1+1-1+1-1+1-1+1-1+1-1+1-1+1-1+1-1+1-1+1-1+1-1+1-1; = 0
        by(0)
        law(0, 0, 0) = 1

        promise 20: digits
        name(98765, 0)
        read melts digit 0 of sounds*10+digit 4 of sounds; = 0
        by(0)
        law(0, 0, 0) = 59
        read melts digit 5 of sounds+digit -1 of sounds+digit 9999 of 1; = 1
        by(1)
        law(0, 0, 0) = 0
        read melts digit 1 of -sounds; = 2
        by(2)
        law(0, 0, 0) = 6
        read melts digit 6 of (9999*9999)+digit 2 of 1234; = 3
        by(3)
        law(0, 0, 0) = 3
        back()
        name(98765, 0)
        read melts digit 2 of sounds*10+digit 3 of sounds; = 0
        by(0)
        law(0, 0, 0) = 78
        read melts digit 5 of (9999*99)*10+digit 6 of (9999*9999); = 1
        by(1)
        law(0, 0, 0) = 91
        read melts digit 2 of 9199+digit 3 of 1999+digit 4 of 9999; = 2
        by(2)
        law(0, 0, 0) = 2
        read melts digit 7 of (9999*9999); = 3
        by(3)
        law(0, 0, 0) = 0

        promise 20: whether a name is in the ice
        name(1, 0)
        name(2, 0)
        call(1)
        read melts ice 0*10+ice 1; = 0
        by(0)
        law(0, 0, 0) = 10
        read melts ice 2+ice -1+ice 9999; = 1
        by(1)
        law(0, 0, 0) = 0

        promise 20: choices
        name(1, 5)
        read melts if 1<2 and 2<=2 and 3>2 and 2>=2 and 2=2 and 2#3 then 7 else 8 end; = 0
        by(0)
        law(0, 0, 0) = 7
        read melts if 2<2 or 3<=2 or 2>2 or 1>=2 or 2=3 or 2#2 then 7 else 8 end; = 1
        by(1)
        law(0, 0, 0) = 8
        read melts if not 1=2 and 1=2 or 1=1 then if 1=2 then 1 else 2 end else 3 end*10; = 2
        by(2)
        law(0, 0, 0) = 20
        read melts if not not 1=2 or 1=1 and 1=2 then 1 else layer end; = 3
        by(3)
        law(0, 0, 0) = 5
        back()
        name(1, 5)
        read melts if not 1=2 then 7 else 8 end; = 0
        by(0)
        law(0, 0, 0) = 7
        read melts if not 1=1 then 7 else 8 end; = 1
        by(1)
        law(0, 0, 0) = 8
        """;

    private static final String ASKED = """
        promise 16: springs, and that they are one step
        springs(-1, 1) = -1
        springs(10000, 1) = -1
        springs(0, 0) = -1
        springs(0, 41) = -1
        about(4) = 0
        springs(0, 5) = 2
        is(1) = 8231
        is(2) = 3
        is(3) = 6
        about(4) = 1
        undo() = 0
        is(0) = 0
        is(1) = 307
        is(3) = 0
        springs(9999, 1) = 1
        is(1) = 3715
        springs(9999, 40)
        about(4) = 2

        promise 16: names called and put back, stones, families that stand
        name(12, 9)
        family(5, 2)
        stone(5, true)
        stone(6, true)
        springs(5, 1) = 0
        is(1) = 25039
        is(3) = 64
        springs(1, 1) = 0
        is(3) = 80
        springs(1, 1) = 0
        is(3) = 80
        springs(4, 1) = 0
        of(0, 3) = 0
        undo() = 5
        of(0, 3) = -1
        springs(6, 1) = 0
        of(0, 3) = -1
        springs(4, 1) = 0
        of(0, 3) = 0
        springs(6, 1) = 0
        of(0, 3) = 0
        springs(2, 1) = 0
        ofFamily(0, 1) = 4
        stand(0, 2)
        springs(0, 1) = 1
        of(0, 3) = 20
        springs(4, 1) = 1
        of(0, 3) = 20
        springs(6, 1) = 1
        of(0, 3) = 0
        name(3, 9)
        name(4, 9)
        family(6, 1)
        springs(11, 1) = 1
        of(2, 3) = 0
        of(1, 3) = -1
        springs(2, 1) = 1
        ofFamily(1, 1) = 4
        ofFamily(0, 1) = 2

        promise 16: what there are none of isn't
        springs(4, 1) = 0
        springs(2, 1) = 0
        springs(6, 1) = 0
        about(4) = 3

        promise 18: of a name
        of(0, 0) = -2
        name(4321, 7)
        of(0, 0) = 4321
        of(0, 1) = 7
        of(0, 2) = 4
        of(0, 3) = -1
        of(0, 4) = 4321
        of(0, 5) = -2
        of(0, -1) = -2
        of(1, 0) = -2
        of(-1, 0) = -2
        family(4, 2)
        call(0)
        hour(1)
        of(0, 3) = 20

        promise 19: of a family
        ofFamily(0, 0) = -1
        family(3, 2)
        ofFamily(0, 0) = 3
        ofFamily(0, 1) = 2
        ofFamily(0, 2) = 0
        ofFamily(0, 3) = -1
        ofFamily(0, -1) = -1
        ofFamily(1, 0) = -1
        ofFamily(-1, 0) = -1
        name(1, 9)
        name(2, 9)
        name(3, 9)
        call(0)
        call(2)
        hour(1) = 2
        ofFamily(0, 2) = 5
        family(1, 2)
        read claims house; = 0
        by(0)
        call(1)
        hour(1) = 1
        of(1, 3) = 21
        ofFamily(1, 2) = 2
        book(2, 1) = 1
        book(2, 3) = 1

        promise 21: what is
        is(5) = -2
        is(-1) = -2
        stone(4, true)
        eddy(5, true)
        hour(1)
        is(0) = 1
        is(1) = 19409
        is(2) = 7
        is(3) = 16
        is(4) = 32

        promise 22: the book, the latest thirty lines
        book(0, 0) = -2
        book(-2, 0) = -2
        name(12, 9)
        family(2, 2)
        hour(8)
        call(0)
        hour(1) = 1
        book(-1, 0) = 1
        book(-1, 9) = 1
        book(0, 0) = 8
        book(0, 1) = 0
        book(0, 2) = 0
        book(0, 3) = 0
        book(0, 4) = -2
        book(0, -1) = -2
        book(1, 0) = -2

        promise 22: the thirty-first drives out the eldest, and comes back with it
        name(1, 0)
        name(2, 0)
        name(3, 0)
        name(4, 0)
        name(5, 0)
        name(6, 0)
        family(1, 0)
        read melts 1; = 0
        by(0)
        eddy(0, true)
        hour(1)
        hour(20)
        book(-1, 0) = 6
        back()
        name(1, 9)
        family(1, 1)
        family(1, 2)
        29 times played(0) = -2
        read call 0;hour 1; = 0
        read sink 0;hour 1; = 1
        played(0) = -1
        28 times played(1)
        book(-1, 0) = 29
        played(1)
        book(-1, 0) = 30
        book(0, 0) = 0
        played(1)
        book(-1, 0) = 30
        book(0, 0) = 1
        book(28, 0) = 29
        book(29, 0) = 30
        undo()
        book(-1, 0) = 30
        book(0, 0) = 0
        book(29, 0) = 29

        promise 23: foretold, and nothing is done
        foretold(1, 0, 0) = -2
        name(12345, 9)
        read breaks 10; = 0
        by(0)
        stone(2, true)
        family(3, 4)
        call(0)
        foretold(0, 0, 0) = -2
        foretold(61, 0, 0) = -2
        foretold(1, 1, 0) = -2
        foretold(1, -1, 0) = -2
        foretold(1, 0, 2) = -2
        foretold(1, 0, -1) = -2
        foretold(1, 0, 0) = 2
        foretold(1, 0, 1) = 3
        foretold(2, 0, 0) = 20
        foretold(60, 0, 0) = 20
        is(0) = 0
        is(1) = 307
        of(0, 3) = 0
        of(0, 2) = 5
        book(-1, 0) = 0
        about(4) = 2
        hour(2) = 1
        of(0, 3) = 20
        """;

    private static final String WAYS = """
        promise 24: wants, of all that could be there
        wants(-1, 0, 1) = false
        wants(5, 0, 1) = false
        wants(0, -1, 1) = false
        wants(0, 6, 1) = false
        wants(0, 0, -1) = false
        wants(0, 0, 100) = false
        wants(4, 5, 99) = true
        wants(0, 1, 2) = true
        name(1, 1)
        name(2, 1)
        family(1, 1)
        gladdest(0) = 1
        stable(0, true) = 1
        wants(0, 1, 0) = true
        gladdest(0) = -1
        stable(0, true) = -1
        about(4) = 0

        promise 25: favours, of all that could be there
        favours(6, 0, 1) = false
        favours(-1, 0, 1) = false
        favours(0, 5, 1) = false
        favours(0, -1, 1) = false
        favours(0, 0, -1) = false
        favours(0, 0, 100) = false
        favours(5, 4, 99) = true
        favours(0, 1, 1) = true
        name(1, 1)
        family(1, 1)
        family(1, 1)
        wants(0, 0, 5)
        wants(1, 0, 5)
        stable(0, true) = -1
        stable(1, true) = 0
        favours(0, 1, 0)
        stable(0, true) = 0
        stable(1, true) = -1

        promise 26, 27: the best of all stable ways for families, and for names
        stable(0, true) = -1
        name(1, 1)
        name(2, 1)
        name(3, 1)
        family(1, 1)
        family(1, 1)
        family(1, 1)
        wants(0, 0, 3)
        wants(0, 1, 2)
        wants(0, 2, 1)
        wants(1, 1, 3)
        wants(1, 2, 2)
        wants(1, 0, 1)
        wants(2, 2, 3)
        wants(2, 0, 2)
        wants(2, 1, 1)
        favours(0, 1, 3)
        favours(0, 2, 2)
        favours(0, 0, 1)
        favours(1, 2, 3)
        favours(1, 0, 2)
        favours(1, 1, 1)
        favours(2, 0, 3)
        favours(2, 1, 2)
        favours(2, 2, 1)
        stable(0, true) = 0
        stable(1, true) = 1
        stable(2, true) = 2
        stable(0, false) = 2
        stable(1, false) = 0
        stable(2, false) = 1
        stables() = 3
        stable(3, true) = -1
        stable(-1, false) = -1
        wants(0, 0, 0)
        stables() = 2

        promise 26, 27: of like ones the lowest; what isn't there doesn't count
        family(1, 1)
        wants(0, 3, 9)
        stable(0, true) = -1
        stables() = 1
        name(1, 1)
        name(1, 1)
        wants(0, 0, 4)
        wants(0, 1, 4)
        stable(0, true) = 0
        stable(0, false) = 0
        stables() = 1
        wants(0, 1, 5)
        stable(0, true) = 1

        promise 26, 27, 29: families and names that aren't there neither ask nor are asked
        name(1, 1)
        family(1, 1)
        wants(0, 0, 1)
        wants(1, 0, 9)
        favours(0, 1, 9)
        wants(0, 1, 9)
        favours(1, 0, 9)
        stable(0, true) = 0
        stable(0, false) = 0
        stables() = 1
        rests() = 1
        give(0, 0)
        rests() = 0

        promise 27: a family that has none stands in no one's way
        name(1, 1)
        family(1, 1)
        family(1, 1)
        wants(1, 0, 1)
        stable(0, true) = -1
        stable(1, true) = 0
        stable(1, false) = 0
        stables() = 1

        promise 28: given
        give(0, 0) = false
        name(1, 1)
        family(1, 1)
        family(1, 1)
        give(0, 1) = false
        give(2, 0) = false
        give(-1, 0) = false
        give(0, -2) = false
        give(0, 0) = true
        give(0, 0) = true
        give(1, 0) = false
        give(1, -1) = true
        give(0, -1) = true
        give(0, -1) = true
        give(1, 0) = true

        promise 29: pairs that would rather
        name(1, 1)
        name(1, 1)
        family(1, 1)
        family(1, 1)
        rests() = 0
        wants(0, 0, 5)
        rests() = 1
        give(0, 0)
        rests() = 0
        give(0, 1)
        rests() = 1
        wants(0, 1, 5)
        rests() = 1
        wants(0, 1, 6)
        rests() = 0
        wants(1, 1, 1)
        rests() = 0
        favours(1, 1, 1)
        rests() = 1
        favours(1, 0, 1)
        rests() = 0

        promise 30: the gladdest
        gladdest(0) = -1
        family(1, 1)
        wants(0, 0, 7)
        gladdest(0) = -1
        name(1, 1)
        name(1, 1)
        name(1, 1)
        gladdest(0) = 0
        wants(0, 1, 8)
        wants(0, 2, 8)
        gladdest(0) = 1
        gladdest(1) = -1
        gladdest(-1) = -1

        promise 31: whole, in lowest terms
        whole(0, 0, 0, false) = -1
        name(12, 9)
        read breaks cell+2; = 0
        by(0)
        stone(2, true)
        stone(3, true)
        stone(8, true)
        whole(0, 0, 0, false) = 1
        whole(0, 0, 0, true) = 1
        whole(0, 0, 2, false) = 3
        whole(0, 0, 2, true) = 5
        whole(0, 0, 7, false) = 3
        whole(0, 0, 7, true) = 10
        whole(0, 2, 7, false) = 1
        whole(0, 2, 7, true) = 2
        whole(0, 3, 7, true) = 1
        whole(0, 0, 8, false) = 0
        whole(0, 0, 8, true) = 1
        whole(0, 1, 0, true) = -1
        whole(0, -1, 0, true) = -1
        whole(0, 0, 10, true) = -1
        whole(1, 0, 1, true) = -1
        whole(-1, 0, 1, true) = -1

        promise 31: by the size as it is; what has one sound doesn't break
        name(1, 9)
        name(1234, 9)
        read breaks size; = 0
        by(0)
        9 times stone(0, true)
        stone(1, true)
        stone(2, true)
        whole(0, 0, 9, true) = 1
        whole(1, 0, 9, false) = 9
        whole(1, 0, 9, true) = 25

        promise 31: nine stones
        name(12, 9)
        read breaks 1; = 0
        by(0)
        read lay 1;lay 2;lay 3;lay 4;lay 5;lay 6;lay 7;lay 8;lay 9; = 1
        played(1) = -1
        whole(0, 0, 9, false) = 387420489
        whole(0, 0, 9, true) = 1000000000

        promise 32: the fewest stones to clear, the lowest set of like ones
        clear(0, 0, 9, 1) = -1
        name(12, 9)
        read breaks cell; = 0
        by(0)
        read lay 1;lay 2;lay 3;lay 4;lay 0; = 1
        played(1) = -1
        clear(0, 0, 9, 10) = 30
        clear(0, 0, 9, 9) = 28
        clear(0, 0, 9, 7) = 24
        clear(0, 0, 9, 5) = 16
        clear(0, 0, 9, 4) = 8
        clear(0, 0, 9, 3) = 0
        clear(0, 0, 9, 1) = 0
        clear(0, 2, 9, 5) = 8
        clear(0, 4, 9, 10) = 0
        clear(0, 0, 9, 0) = -1
        clear(0, 0, 9, 11) = -1
        clear(0, 5, 4, 1) = -1
        clear(0, -1, 4, 1) = -1
        clear(0, 0, 10, 1) = -1
        clear(1, 0, 9, 1) = -1
        is(3) = 31
        by(-1)
        clear(0, 0, 9, 7) = 14
        """;

    private static final String REST = """
        promise 33: halves, eight at most
        half(0) = -2
        half(10) = -2
        half(-2) = -2
        half(123456) = -2
        half(99999) = 1
        7 times half(1)
        about(5) = 8
        half(1) = -2
        half(-1) = 0
        about(5) = 0
        half(-1) = 0
        half(1) = 1

        promise 34: halves joined, the most pairs, the lowest first
        name(12, 1)
        name(21, 1)
        name(11, 1)
        name(12, 1)
        half(1)
        joins(-1) = 0
        half(2)
        joins(-1) = 1
        joins(0) = 10
        joins(1) = -2
        joins(-2) = -2
        half(1)
        joins(0) = 10
        half(2)
        joins(-1) = 2
        joins(0) = 10
        joins(1) = 230
        half(-1)
        half(2)
        half(1)
        joins(0) = 11
        half(1)
        joins(-1) = 1
        joins(0) = 11

        promise 34: more pairs go ahead of lower ones
        name(12, 1)
        name(13, 1)
        half(2)
        half(1)
        half(3)
        half(1)
        joins(-1) = 2
        joins(0) = 100
        joins(1) = 321
        half(-1)
        half(1)
        half(2)
        half(3)
        joins(-1) = 1
        joins(0) = 10
        name(23, 1)
        joins(0) = 10
        half(1)
        joins(-1) = 2
        joins(0) = 10
        joins(1) = 321
        half(-1)
        half(23)
        half(1)
        joins(-1) = 0
        name(123, 1)
        joins(0) = 103
        half(99999)
        half(99999)
        joins(-1) = 1

        promise 34: four pairs, and longer halves
        name(91111, 1)
        name(12, 1)
        half(1111)
        half(9)
        half(2)
        half(1)
        half(1)
        half(2)
        joins(-1) = 3
        half(9)
        half(1111)
        joins(-1) = 4
        joins(0) = 100
        joins(1) = 321
        joins(2) = 451
        joins(3) = 670
        joins(4) = -2

        promise 35: layers that hold some names
        layers(0) = 0
        layers(1) = -1
        name(1, 0)
        name(1, 9)
        name(1, 9)
        layers(0) = 0
        layers(1) = 1
        layers(6) = 512
        layers(7) = 513
        layers(8) = -1
        layers(-1) = -1

        promise 36: rhyme
        name(1234, 1)
        name(234, 1)
        name(4, 1)
        name(1235, 1)
        name(1234, 1)
        rhyme(0, 1) = 3
        rhyme(1, 0) = 3
        rhyme(2, 0) = 1
        rhyme(0, 3) = 0
        rhyme(0, 4) = 4
        rhyme(0, 5) = -1
        rhyme(-1, 0) = -1

        promise 37: kindred
        name(1234, 1)
        kindred(0) = -1
        name(34, 1)
        name(934, 1)
        name(5, 1)
        kindred(0) = 1
        kindred(1) = 0
        kindred(2) = 0
        kindred(3) = -1
        name(234, 1)
        kindred(0) = 4
        kindred(5) = -1
        kindred(-1) = -1

        promise 36, 37: by the sounds as told
        name(12, 9)
        name(32, 9)
        read breaks 10; = 0
        by(0)
        stone(2, true)
        call(0)
        hour(1)
        of(0, 4) = 1
        rhyme(0, 1) = 1
        kindred(1) = 0

        promise 38: the quota
        quota(0) = false
        quota(100) = false
        quota(-1) = false
        family(9, 1)
        family(1, 1)
        coalitions() = 1
        quota(99) = true
        coalitions() = 0
        quota(1) = true
        coalitions() = 3

        promise 39, 40, 41, 42: power of nets
        power(0, false) = -1
        dummies() = 0
        veto() = 0
        coalitions() = 0
        family(4, 1)
        quota(4)
        power(0, false) = 1
        power(0, true) = 1
        family(3, 1)
        family(2, 1)
        family(1, 1)
        quota(6)
        power(0, false) = 5
        power(0, true) = 12
        power(1, false) = 1
        power(1, true) = 4
        power(2, false) = 1
        power(2, true) = 4
        power(3, false) = 1
        power(3, true) = 12
        power(4, false) = -1
        power(-1, true) = -1
        coalitions() = 7
        dummies() = 0
        veto() = 0
        quota(7)
        veto() = 1
        dummies() = 0
        coalitions() = 5
        quota(10)
        veto() = 15
        coalitions() = 1
        power(3, true) = 4
        quota(4)
        family(9, 1)
        power(4, false) = 23
        power(4, true) = 60
        quota(9)
        dummies() = 8
        quota(19)
        veto() = 31
        quota(20)
        veto() = 31
        dummies() = 31
        power(0, false) = 0
        power(0, true) = 1

        promise 43: said, eight at most
        said(0, 1) = -2
        name(1, 1)
        said(0, 100) = -2
        said(0, -100) = -2
        said(-2, 0) = -2
        said(0, 99) = 1
        said(0, -99) = 2
        6 times said(0, 0)
        said(0, 0) = -2
        about(6) = 8
        said(-1, 500) = 0
        about(6) = 0

        promise 44: whose law it was
        name(1, 2)
        name(1, 4)
        read melts 5; = 0
        read melts layer; = 1
        read breaks 4; = 2
        whose() = 7
        said(0, 2) = 1
        whose() = 2
        said(1, 4) = 2
        whose() = 2
        said(1, 5) = 3
        whose() = 0
        said(-1, 0)
        said(0, -2)
        whose() = 4
        hour(1)
        whose() = 0
        said(-1, 0)
        said(0, 5)
        said(1, 5)
        whose() = 1
        read melts 200; = 3
        said(-1, 0)
        said(0, 99)
        whose() = 8

        promise 45: the richest
        richest() = -1
        name(1, 9)
        name(2, 9)
        name(3, 9)
        family(1, 2)
        family(1, 2)
        richest() = -1
        read claims if who=0 then 1-house else house end; = 0
        by(0)
        call(0)
        call(1)
        hour(1) = 2
        richest() = 0
        hour(3)
        call(2)
        stand(1, 2)
        stand(1, 1)
        hour(2)
        sink(0)
        richest() = 1

        promise 46: next to the mill
        next() = -1
        name(1, 9)
        name(2, 9)
        name(3, 9)
        next() = -1
        call(1)
        next() = 1
        call(0)
        next() = 0
        hour(1)
        call(2)
        next() = 0
        sink(0)
        hour(3)
        of(0, 3) = 8
        of(2, 3) = 6
        hour(1)
        next() = 2
        hour(5)
        next() = -1

        promise 47: frozen
        frozen() = 0
        name(1, 9)
        name(2, 9)
        name(3, 9)
        frozen() = 7
        call(1)
        frozen() = 5
        undo()
        frozen() = 7

        promise 48: by the book
        ledger(-1) = -2
        ledger(3) = -2
        ledger(0) = 0
        name(1234, 9)
        name(1, 9)
        read breaks 10; = 0
        by(0)
        family(9, 4)
        stone(2, true)
        call(0)
        call(1)
        hour(2)
        ledger(0) = 2
        ledger(1) = 0
        ledger(2) = 1
        sink(1)
        stand(0, 0)
        hour(20)
        ledger(0) = 2
        ledger(1) = 1
        ledger(2) = 1

        promise 49, 50: an image, and back to it more than once
        name(12, 0)
        family(2, 2)
        hour(1)
        read melts 5; = 0
        by(0)
        eddy(1, true)
        wants(0, 0, 7)
        favours(0, 0, 7)
        give(0, 0)
        half(1)
        half(2)
        said(0, 5)
        quota(2)
        image() = 1
        name(3, 0)
        family(3, 3)
        hour(7)
        read melts 6; = 1
        by(1)
        eddy(4, true)
        stone(4, true)
        wants(0, 0, 0)
        give(0, -1)
        half(-1)
        said(-1, 0)
        quota(50)
        tape melts 1;;
        back() = 1
        is(0) = 1
        is(1) = 19409
        is(2) = 7
        is(3) = 0
        is(4) = 2
        about(0) = 1
        about(1) = 1
        about(2) = 1
        about(3) = 0
        about(4) = 1
        about(5) = 2
        about(6) = 1
        about(7) = 9
        gladdest(0) = 0
        rests() = 0
        joins(0) = 10
        whose() = 1
        coalitions() = 1
        book(-1, 0) = 0
        of(0, 3) = 0
        text() = -1
        fault(1) = 8
        read melts 9; = 1
        undo() = 0
        is(0) = 0
        back() = 1
        about(4) = 1
        fault(1) = -1
        undo() = 0
        undo() = -1

        promise 49, 50: the image holds the steps that can be taken back
        family(2, 2)
        family(2, 2)
        name(1, 9)
        name(2, 9)
        wants(1, 1, 5)
        wants(4, 5, 5)
        hour(40)
        stand(1, 3)
        image() = 40
        hour(5)
        stand(1, 4)
        wants(1, 1, 0)
        back() = 40
        gladdest(1) = 1
        about(4) = 30
        undo() = 29
        ofFamily(1, 1) = 2
        28 times undo()
        is(0) = 12
        undo() = 0
        is(0) = 11
        undo() = -1
        back() = 40
        about(4) = 30
        ofFamily(1, 1) = 3

        promise 51: about
        about(8) = -2
        about(-1) = -2
        name(1, 1)
        family(1, 1)
        family(1, 1)
        read melts 1; = 0
        read melts 1; = 1
        read melts 1; = 2
        by(2)
        hour(4)
        half(1)
        said(0, 1)
        said(0, 1)
        tape abc
        about(0) = 1
        about(1) = 2
        about(2) = 3
        about(3) = 2
        about(4) = 4
        about(5) = 1
        about(6) = 2
        about(7) = 3
        """;

    private PromisesTest() {
    }

    public static void main(String[] args) throws Exception {
        Script script = new Script();
        for (String part : new String[] {TOLD, STEPS, TEXTS, LAWS, ASKED, WAYS, REST}) {
            script.run(part);
        }
        for (int promise = 1; promise <= 51; promise++) {
            if (!script.promises.contains(promise)) {
                script.wrong++;
                System.out.println("no run speaks of promise " + promise);
            }
        }
        System.out.println(script.checks + " answers, " + script.wrong + " of them not as due");
        if (script.wrong != 0) {
            System.exit(1);
        }
    }
}
