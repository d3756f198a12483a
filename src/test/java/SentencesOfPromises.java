/** Runs for the sentences of the document's promises, in their order. */
final class SentencesOfPromises {
    // X from a new object on: 307 19409 3285 3508 5965 4471 24993 8231 18536 4154 387 2903 3853 15562 22307 3890 5620.

    static final String TOLD = """
        says 1: Ice;
        is(0) = 0
        is(1) = 307
        is(2) = 0
        is(3) = 0
        is(4) = 0
        about(0) = 0
        about(1) = 0
        about(2) = 0
        about(3) = -1
        about(4) = 0
        about(5) = 0
        about(6) = 0
        about(7) = 0
        book(-1, 0) = 0
        fault(0) = -1
        frozen() = 0
        rests() = 0
        undo() = -1

        says 1: THE IMAGE is this.
        name(1, 1)
        family(9, 1)
        hour(3)
        stone(2, true)
        eddy(2, true)
        quota(9)
        wants(0, 0, 1)
        read melts 1; = 0
        by(0)
        half(1)
        said(0, 1)
        back() = 0
        is(0) = 0
        is(1) = 307
        is(2) = 0
        is(3) = 0
        is(4) = 0
        about(0) = 0
        about(1) = 0
        about(2) = 0
        about(3) = -1
        about(4) = 0
        about(5) = 0
        about(6) = 0
        undo() = -1
        name(1, 1) = 0
        family(9, 1) = 0
        gladdest(0) = -1
        coalitions() = 0

        says 2: A NAME: its number.
        name(12, 3) = 0
        name(12, 3) = 1
        name(99999, 9) = 2
        of(2, 0) = 99999
        of(2, 1) = 9
        of(2, 2) = 5
        of(2, 3) = -1

        says 2: NONE for others,
        name(0, 3) = -1
        name(-5, 3) = -1
        name(20, 3) = -1
        name(123456, 3) = -1
        name(12, -1) = -1
        name(12, 10) = -1
        about(0) = 0
        name(12, 0) = 0

        says 2: or if there are 6.
        5 times name(1, 1)
        name(1, 1) = 5
        name(1, 1) = -1
        about(0) = 6
        hour(1)
        undo()
        name(1, 1) = -1
        back()
        name(1, 1) = 0

        says 3: A FAMILY: its number.
        family(3, 4) = 0
        family(3, 4) = 1
        family(9, 9) = 2
        ofFamily(2, 0) = 9
        ofFamily(2, 1) = 9
        ofFamily(2, 2) = 0

        says 3: NONE for others,
        family(0, 4) = -1
        family(-1, 4) = -1
        family(10, 4) = -1
        family(3, -1) = -1
        family(3, 10) = -1
        about(1) = 0
        family(3, 0) = 0

        says 3: or if there are 5.
        4 times family(1, 1)
        family(1, 1) = 4
        family(1, 1) = -1
        about(1) = 5
        back()
        family(1, 1) = 0

        says 4: An EDDY told, or none: true.
        eddy(0, true) = true
        eddy(0, true) = true
        eddy(9, true) = true
        is(4) = 513
        eddy(0, false) = true
        eddy(0, false) = true
        eddy(5, false) = true
        is(4) = 512
        about(4) = 0

        says 4: False for others.
        eddy(-1, true) = false
        eddy(10, true) = false
        eddy(-1, false) = false
        eddy(10, false) = false
        eddy(31, true) = false
        eddy(32, true) = false
        eddy(-2147483648, true) = false
        eddy(2147483647, true) = false
        is(4) = 0

        says 5: Twenty bytes come behind the tape, the highest of a first: how many it has.
        feed(1818327328, 829978744, 2021161080, 2021161080, 2021161080) = 20
        about(7) = 20
        end(5) = 5
        feed(996958585, 540162920, 1869967904, 859504640, 0) = 25
        end(19) = 19
        text() = 0
        played(0) = -1
        is(3) = 6
        is(0) = 3

        says 5: Twenty bytes come behind the tape, the highest of a first: how many it has.
        feed(-1, 0, 0, 0, 0) = 20
        text() = -1
        fault(1) = 0
        feed(539, 0, 0, 0, 0) = 20
        text() = -1
        fault(1) = 0
        feed(538976288, 538976384, 0, 0, 0) = 20
        text() = -1
        fault(1) = 7
        feed(538976288, 538976288, 538976288, 538976288, 538976266) = 20
        text() = 0

        says 5: NONE, and none come, if there would be more than 300.
        14 times feed(538976288, 538976288, 538976288, 538976288, 538976288)
        about(7) = 280
        feed(538976288, 538976288, 538976288, 538976288, 538976288) = 300
        feed(0, 0, 0, 0, 0) = -1
        about(7) = 300
        end(281) = 281
        feed(0, 0, 0, 0, 0) = -1
        about(7) = 281
        text() = 0
        15 times feed(538976288, 538976288, 538976288, 538976288, 538976288)
        end(280) = 280
        feed(543973753, 540097312, 538976288, 538976288, 538976288) = 300
        text() = 1
        played(1) = -1
        is(3) = 2

        says 6: The tape has its first n bytes alone: n.
        feed(1818327328, 829978744, 2021161080, 2021161080, 2021161080) = 20
        end(20) = 20
        end(19) = 19
        end(5) = 5
        about(7) = 5
        text() = -1
        fault(1) = 5
        feed(1, 1, 1, 1, 1) = 20
        end(0) = 0
        about(7) = 0
        text() = 0

        says 6: NONE, and nothing is done, if it has not so many,
        end(1) = -1
        feed(1, 1, 1, 1, 1) = 20
        end(21) = -1
        end(300) = -1
        end(2147483647) = -1
        about(7) = 20
        end(7) = 7
        end(8) = -1
        about(7) = 7

        says 6: or n is below 0.
        end(-1) = -1
        feed(1, 1, 1, 1, 1) = 20
        end(-1) = -1
        end(-2147483648) = -1
        about(7) = 20

        says 7: The tape (empty then) is a TEXT: its number.
        text() = 0
        read lay 1; = 1
        about(7) = 0
        text() = 2
        about(2) = 3
        played(1) = -1
        is(3) = 2

        says 7: NONE: it has a FAULT;
        read lay 10; = -1
        about(2) = 0
        about(7) = 0
        played(0) = -2
        read lay 1; = 0
        read lay 1;; = -1
        about(2) = 1
        about(7) = 0
        played(0) = -1
        played(1) = -2

        says 7: NONE: it has a FAULT;
        read lay 5;lay 6;lay 7;lay 8;lay 9; x = -1
        read hour 1; = 0
        played(0) = -1
        is(0) = 1
        is(3) = 0
        read melts 5;breaks 5;claims 5; x = -1
        read lay 1; = 1
        name(1, 3)
        family(1, 1)
        by(1)
        law(0, 0, 0) = 4
        law(0, 0, 1) = 3
        law(0, 0, 2) = 1

        says 7: or (the tape stays) there are 4.
        4 times text()
        about(2) = 4
        read lay 1; = -1
        about(7) = 6
        fault(0) = 0
        fault(1) = -1
        read lay 10; = -1
        about(7) = 7
        fault(0) = 0
        back()
        about(7) = 7
        text() = -1
        about(7) = 0
        fault(0) = 2

        says 8: Of the latest text that was read: 0 its FAULT (0 without), 1 its place (NONE without).
        read lay 10; = -1
        fault(0) = 2
        fault(1) = 4
        read lay 1; = 0
        fault(0) = 0
        fault(1) = -1
        read lay 1 = -1
        fault(0) = 1
        fault(1) = 5
        read ; = -1
        fault(0) = 1
        fault(1) = 0

        says 8: NONE for others,
        read lay 10; = -1
        fault(-1) = -1
        fault(2) = -1
        fault(7) = -1
        fault(2147483647) = -1
        fault(-2147483648) = -1

        says 8: and ahead of any.
        fault(0) = -1
        fault(1) = -1
        fault(2) = -1
        tape lay 10;
        fault(0) = -1
        text() = -1
        fault(0) = 2

        says 9: THE TEXT (NONE: none): true.
        read melts 1; = 0
        read melts 2; = 1
        by(-1) = true
        about(3) = -1
        by(0) = true
        about(3) = 0
        by(1) = true
        by(1) = true
        about(3) = 1
        by(-1) = true
        about(3) = -1
        about(4) = 0

        says 9: False for others.
        by(0) = false
        by(-2) = false
        read melts 1; = 0
        by(0) = true
        by(1) = false
        by(3) = false
        by(4) = false
        by(-2) = false
        by(2147483647) = false
        by(-2147483648) = false
        about(3) = 0
        """;

    static final String DONE = """
        says 10: CALLED: true.
        name(1, 9)
        name(1, 9)
        call(1) = true
        of(1, 3) = 0
        of(0, 3) = -1
        about(4) = 1

        says 10: False, if it can't be,
        name(1, 9)
        name(1, 9)
        family(1, 2)
        call(0) = true
        call(0) = false
        hour(1) = 1
        call(0) = false
        of(0, 3) = 20
        call(1) = true
        stand(0, 9)
        hour(1)
        call(1) = false
        of(1, 3) = 2
        hour(4)
        of(1, 3) = 10
        call(1) = false
        of(1, 3) = 10
        about(4) = 9

        says 10: and for others.
        call(0) = false
        name(1, 9)
        call(1) = false
        call(6) = false
        call(-1) = false
        call(2147483647) = false
        call(-2147483648) = false
        about(4) = 0

        says 11: A STONE laid, or taken away: true.
        stone(0, true) = true
        stone(9, true) = true
        is(3) = 513
        stone(0, false) = true
        is(3) = 512
        stone(9, false) = true
        is(3) = 0
        about(4) = 4

        says 11: False, if it is so,
        stone(3, false) = false
        about(4) = 0
        stone(3, true) = true
        stone(3, true) = false
        is(3) = 8
        about(4) = 1
        stone(3, false) = true
        stone(3, false) = false
        is(3) = 0
        about(4) = 2

        says 11: and for others.
        stone(-1, true) = false
        stone(10, true) = false
        stone(32, true) = false
        stone(-1, false) = false
        stone(10, false) = false
        stone(2147483647, true) = false
        stone(-2147483648, false) = false
        is(3) = 0
        about(4) = 0

        says 12: A FAMILY stands elsewhere: true.
        family(1, 4)
        family(1, 4)
        stand(1, 0) = true
        ofFamily(1, 1) = 0
        ofFamily(0, 1) = 4
        stand(1, 9) = true
        ofFamily(1, 1) = 9
        about(4) = 2

        says 12: False, if it stands there,
        family(1, 4)
        stand(0, 4) = false
        stand(0, 5) = true
        stand(0, 5) = false
        about(4) = 1

        says 12: and for others.
        stand(0, 4) = false
        family(1, 4)
        stand(1, 5) = false
        stand(-1, 5) = false
        stand(5, 5) = false
        stand(0, -1) = false
        stand(0, 10) = false
        stand(2147483647, 5) = false
        stand(0, -2147483648) = false
        ofFamily(0, 1) = 4
        about(4) = 0

        says 13: PUT BACK: true.
        name(1, 9)
        name(1, 9)
        family(1, 2)
        call(0)
        call(1)
        hour(1) = 2
        sink(1) = true
        of(1, 3) = 0
        of(0, 3) = 20
        ofFamily(0, 2) = 1
        about(4) = 4

        says 13: False, if it can't be,
        name(1, 9)
        sink(0) = false
        of(0, 3) = -1
        call(0)
        sink(0) = false
        hour(1)
        sink(0) = false
        of(0, 3) = 2
        hour(4)
        of(0, 3) = 10
        sink(0) = false
        of(0, 3) = 10
        about(4) = 6

        says 13: and for others.
        sink(0) = false
        name(1, 9)
        family(1, 2)
        call(0)
        hour(1) = 1
        sink(1) = false
        sink(6) = false
        sink(-1) = false
        sink(2147483647) = false
        sink(-2147483648) = false
        of(0, 3) = 20
        about(4) = 2

        says 14: HOURS pass (1 .. 60): how many NAMES are claimed in them.
        4 times name(1, 9)
        family(1, 2)
        family(1, 4)
        hour(1) = 0
        is(0) = 1
        call(0)
        call(1)
        hour(1) = 2
        call(2)
        stand(0, 9)
        hour(2) = 1
        of(2, 3) = 21
        hour(60) = 0
        is(0) = 64

        says 14: NONE for others,
        hour(0) = -1
        hour(-1) = -1
        hour(61) = -1
        hour(2147483647) = -1
        hour(-2147483648) = -1
        is(0) = 0
        is(1) = 307
        about(4) = 0

        says 14: or beyond 9999 (nothing is done then).
        166 times hour(60)
        is(0) = 9960
        hour(40) = -1
        hour(60) = -1
        is(0) = 9960
        hour(37) = 0
        is(0) = 9997
        undo() = 29
        hour(1) = 0
        hour(3) = -1
        is(0) = 9997
        is(1) = 1306
        hour(2) = 0
        is(0) = 9999
        hour(1) = -1
        is(0) = 9999

        says 15: PLAYED by a TEXT: NONE: all is done;
        read lay 1;lay 2;hour 2; = 0
        read = 1
        read melts 1;breaks 2; = 2
        played(0) = -1
        is(3) = 6
        is(0) = 2
        played(1) = -1
        played(2) = -1
        about(4) = 4

        says 15: else the number of the CLAUSE that can't be.
        read lay 1;melts 1;take 1;take 1;lay 5; = 0
        played(0) = 3
        is(3) = 0
        played(0) = 3
        stone(1, true)
        played(0) = 0
        is(3) = 2

        says 15: -2 for others.
        played(0) = -2
        played(-1) = -2
        read lay 1; = 0
        played(1) = -2
        played(-1) = -2
        played(4) = -2
        played(2147483647) = -2
        played(-2147483648) = -2
        is(3) = 0

        says 16: SPRINGS: HOUR.
        hour(3)
        springs(0, 1) = 4
        springs(1, 1) = 4
        springs(0, 40) = 21
        is(1) = 22126

        says 16: NONE for others.
        springs(-1, 5) = -1
        springs(10000, 5) = -1
        springs(5, 0) = -1
        springs(5, -1) = -1
        springs(5, 41) = -1
        springs(2147483647, 1) = -1
        springs(-2147483648, 1) = -1
        springs(1, 2147483647) = -1
        is(1) = 307
        about(4) = 0
        springs(0, 1) = 1
        springs(9999, 40)
        about(4) = 2

        says 17: The latest STEP is taken back: how many can be yet.
        name(1, 9)
        call(0)
        stone(4, true)
        hour(2)
        undo() = 3
        is(0) = 1
        of(0, 3) = 2
        undo() = 2
        is(0) = 0
        of(0, 3) = 0
        undo() = 1
        is(3) = 0
        undo() = 0
        of(0, 3) = -1

        says 17: NONE: there is none.
        undo() = -1
        name(1, 9)
        family(1, 1)
        eddy(3, true)
        undo() = -1
        about(0) = 1
        is(4) = 8
        hour(1)
        undo() = 0
        undo() = -1
        is(0) = 0
        """;

    static final String SEEN = """
        says 18: Of a NAME: 0 SOUNDS, 1 LAYER, 2 SIZE now,
        name(4321, 7)
        name(5, 0)
        of(0, 0) = 4321
        of(0, 1) = 7
        of(0, 2) = 4
        of(1, 0) = 5
        of(1, 1) = 0
        of(1, 2) = 1
        read breaks 10; = 0
        by(0)
        stone(2, true)
        call(0)
        hour(1)
        of(0, 0) = 4321
        of(0, 2) = 2

        says 18: 3 where it is (NONE: in the ice; 0 .. 9 a CELL; 10: milled; 20 and more: with the FAMILY beyond 20),
        4 times name(1, 9)
        4 times family(1, 9)
        family(1, 2)
        of(0, 3) = -1
        call(0)
        of(0, 3) = 0
        hour(1) = 1
        of(0, 3) = 24
        stand(4, 9)
        stand(0, 2)
        call(1)
        hour(1) = 1
        of(1, 3) = 20
        stand(0, 9)
        call(2)
        hour(3)
        of(2, 3) = 6
        hour(1)
        of(2, 3) = 7
        hour(1)
        of(2, 3) = 8
        hour(1)
        of(2, 3) = 10

        says 18: 4 what is left of its SOUNDS.
        name(98765, 9)
        read breaks 10; = 0
        by(0)
        stone(2, true)
        stone(4, true)
        stone(6, true)
        of(0, 4) = 98765
        call(0)
        hour(1)
        of(0, 4) = 987
        hour(1)
        of(0, 4) = 98
        hour(1)
        of(0, 3) = 6
        of(0, 4) = 9

        says 18: -2 for others.
        of(0, 0) = -2
        name(1, 9)
        of(0, -1) = -2
        of(0, 5) = -2
        of(1, 0) = -2
        of(-1, 0) = -2
        of(6, 3) = -2
        of(2147483647, 0) = -2
        of(0, -2147483648) = -2

        says 19: Of a FAMILY: 0 NET, 1 its CELL, 2 NAMES it has (bits).
        6 times name(1, 9)
        family(3, 7)
        family(8, 2)
        ofFamily(0, 0) = 3
        ofFamily(0, 1) = 7
        ofFamily(0, 2) = 0
        call(0)
        call(5)
        hour(1) = 2
        ofFamily(1, 2) = 33
        ofFamily(0, 2) = 0
        stand(1, 4)
        ofFamily(1, 1) = 4
        ofFamily(1, 0) = 8

        says 19: NONE for others.
        ofFamily(0, 0) = -1
        family(3, 7)
        ofFamily(0, -1) = -1
        ofFamily(0, 3) = -1
        ofFamily(1, 0) = -1
        ofFamily(-1, 0) = -1
        ofFamily(5, 2) = -1
        ofFamily(2147483647, 0) = -1
        ofFamily(0, 2147483647) = -1

        says 20: 0 melts, 1 breaks now (FAMILIES aside),
        name(12, 4)
        law(0, 0, 0) = -4
        law(0, 0, 1) = 3
        law(0, -1, 0) = -4
        law(0, 5, 1) = 3
        read melts warm+60;breaks warm; = 0
        by(0)
        law(0, 2147483647, 0) = 60
        law(0, -2147483648, 1) = 0
        hour(1)
        law(0, 0, 0) = 67
        law(0, 0, 1) = 7

        says 20: 2 claims now (of that FAMILY).
        name(12, 4)
        family(3, 1)
        family(8, 1)
        law(0, 0, 2) = 1
        read claims net*10+warm; = 0
        by(0)
        law(0, 0, 2) = 30
        law(0, 1, 2) = 80
        hour(1)
        law(0, 1, 2) = 87

        says 20: -100 for others.
        law(0, 0, 0) = -100
        name(12, 4)
        law(0, 0, 2) = -100
        family(3, 1)
        law(0, 0, 2) = 1
        law(0, 1, 2) = -100
        law(0, -1, 2) = -100
        law(0, 5, 2) = -100
        law(0, 0, 3) = -100
        law(0, 0, -1) = -100
        law(1, 0, 0) = -100
        law(1, 0, 1) = -100
        law(1, 0, 2) = -100
        law(-1, 0, 1) = -100
        law(2147483647, 0, 0) = -100

        says 21: 0 HOUR, 1 X, 2 WARM, 3 STONES (bits), 4 EDDIES (bits).
        stone(0, true)
        stone(9, true)
        eddy(1, true)
        eddy(8, true)
        hour(2)
        is(0) = 2
        is(1) = 3285
        is(2) = 9
        is(3) = 513
        is(4) = 258

        says 21: -2 for others.
        is(-1) = -2
        is(5) = -2
        is(2147483647) = -2
        is(-2147483648) = -2

        says 22: BOOK: how many (i NONE);
        name(12, 9)
        family(2, 4)
        book(-1, 0) = 0
        book(-1, 7) = 0
        read breaks 10; = 0
        by(0)
        stone(2, true)
        call(0)
        hour(1)
        book(-1, 0) = 1
        hour(1)
        book(-1, 0) = 2
        book(-1, -5) = 2

        says 22: the i-th, from the eldest on: 0 HOUR, 1 NAME, 2 what (0 claimed, 1 milled, 2 broken), 3 the FAMILY (0), or the CELL.
        name(1, 9)
        name(12, 9)
        name(1, 9)
        family(2, 9)
        family(2, 4)
        read breaks 10; = 0
        by(0)
        stone(2, true)
        hour(1)
        call(1)
        hour(2)
        call(2)
        stand(1, 9)
        hour(7)
        book(-1, 0) = 3
        book(0, 0) = 1
        book(0, 1) = 1
        book(0, 2) = 2
        book(0, 3) = 2
        book(1, 0) = 2
        book(1, 1) = 1
        book(1, 2) = 0
        book(1, 3) = 1
        book(2, 0) = 9
        book(2, 1) = 2
        book(2, 2) = 1
        book(2, 3) = 9

        says 22: -2 if there is none such, and for others.
        book(0, 0) = -2
        name(1, 9)
        family(1, 2)
        call(0)
        hour(1) = 1
        book(0, 0) = 0
        book(1, 0) = -2
        book(30, 0) = -2
        book(-2, 0) = -2
        book(0, -1) = -2
        book(0, 4) = -2
        book(2147483647, 0) = -2
        book(-2147483648, 0) = -2
        book(0, 2147483647) = -2

        says 23: FORETOLD: 0 where it is, 1 SIZE.
        name(1234, 9)
        name(1, 9)
        family(2, 2)
        read breaks 10; = 0
        by(0)
        stone(2, true)
        call(0)
        foretold(1, 0, 0) = 20
        foretold(1, 0, 1) = 2
        foretold(1, 1, 0) = -1
        foretold(1, 1, 1) = 1
        of(0, 3) = 0
        of(0, 2) = 4

        says 23: -2 for others.
        foretold(1, 0, 0) = -2
        name(1, 9)
        foretold(0, 0, 0) = -2
        foretold(61, 0, 0) = -2
        foretold(-1, 0, 0) = -2
        foretold(1, 1, 0) = -2
        foretold(1, -1, 0) = -2
        foretold(1, 0, 2) = -2
        foretold(1, 0, -1) = -2
        foretold(2147483647, 0, 0) = -2
        foretold(1, 2147483647, 0) = -2
        """;

    static final String LIKED = """
        says 24: A WANT told: true.
        name(1, 9)
        name(1, 9)
        family(1, 1)
        wants(0, 0, 5) = true
        wants(0, 1, 4) = true
        gladdest(0) = 0
        wants(0, 1, 6) = true
        gladdest(0) = 1
        wants(0, 1, 0) = true
        gladdest(0) = 0

        says 24: False for others (FAMILIES 0 .. 4, NAMES 0 .. 5; 0 .. 99).
        wants(-1, 0, 1) = false
        wants(5, 0, 1) = false
        wants(0, -1, 1) = false
        wants(0, 6, 1) = false
        wants(0, 0, -1) = false
        wants(0, 0, 100) = false
        wants(2147483647, 0, 1) = false
        wants(0, 2147483647, 1) = false
        wants(0, 0, -2147483648) = false
        wants(0, 0, 0) = true
        wants(4, 5, 99) = true
        6 times name(1, 9)
        5 times family(1, 1)
        gladdest(4) = 5
        gladdest(0) = -1
        gladdest(1) = -1
        gladdest(3) = -1

        says 25: A FAVOUR told: true.
        name(1, 9)
        family(1, 1)
        family(1, 1)
        wants(0, 0, 1)
        wants(1, 0, 1)
        favours(0, 1, 5) = true
        stable(1, true) = 0
        favours(0, 0, 6) = true
        stable(0, true) = 0
        favours(0, 0, 0) = true
        stable(1, true) = 0

        says 25: False for others (likewise).
        favours(-1, 0, 1) = false
        favours(6, 0, 1) = false
        favours(0, -1, 1) = false
        favours(0, 5, 1) = false
        favours(0, 1, -1) = false
        favours(0, 1, 100) = false
        favours(2147483647, 0, 1) = false
        favours(0, -2147483648, 1) = false
        favours(0, 0, 0) = true
        favours(5, 4, 99) = true
        6 times name(1, 9)
        5 times family(1, 1)
        wants(0, 0, 1)
        wants(1, 0, 1)
        stable(0, true) = 0
        wants(3, 5, 1)
        wants(4, 5, 1)
        stable(4, true) = 5

        says 26: STABLE: the NAME.
        name(1, 9)
        name(1, 9)
        family(1, 1)
        family(1, 1)
        wants(0, 1, 1)
        wants(1, 0, 1)
        stable(0, true) = 1
        stable(0, false) = 1
        stable(1, true) = 0
        stable(1, false) = 0

        says 26: NONE: none,
        name(1, 9)
        family(1, 1)
        stable(0, true) = -1
        stable(0, false) = -1
        wants(0, 1, 9)
        stable(0, true) = -1
        stable(0, false) = -1

        says 26: and for others.
        stable(0, true) = -1
        name(1, 9)
        family(1, 1)
        wants(0, 0, 1)
        wants(1, 0, 1)
        stable(1, true) = -1
        stable(-1, true) = -1
        stable(5, false) = -1
        stable(2147483647, true) = -1
        stable(-2147483648, false) = -1

        says 27: how many STABLE ways there are.
        stables() = 1
        3 times name(1, 9)
        3 times family(1, 1)
        stables() = 1
        wants(0, 0, 3)
        wants(0, 1, 2)
        wants(0, 2, 1)
        wants(1, 1, 3)
        wants(1, 2, 2)
        wants(1, 0, 1)
        wants(2, 2, 3)
        wants(2, 0, 2)
        wants(2, 1, 1)
        stables() = 1
        favours(0, 1, 3)
        favours(0, 2, 2)
        favours(0, 0, 1)
        favours(1, 2, 3)
        favours(1, 0, 2)
        favours(1, 1, 1)
        favours(2, 0, 3)
        favours(2, 1, 2)
        favours(2, 2, 1)
        stables() = 3

        says 28: GIVEN (NONE: none): true.
        name(1, 9)
        family(1, 1)
        wants(0, 0, 1)
        give(0, -1) = true
        rests() = 1
        give(0, 0) = true
        rests() = 0
        give(0, 0) = true
        give(0, -1) = true
        rests() = 1
        about(4) = 0

        says 28: False, if another FAMILY has it,
        name(1, 9)
        name(1, 9)
        family(1, 1)
        family(1, 1)
        wants(1, 0, 1)
        favours(0, 1, 1)
        give(0, 0) = true
        give(1, 0) = false
        rests() = 1
        give(1, 1) = true
        give(0, 1) = false
        give(0, -1) = true
        give(1, 0) = true
        rests() = 0

        says 28: and for others (not there).
        give(0, 0) = false
        give(0, -1) = false
        name(1, 9)
        give(0, 0) = false
        family(1, 1)
        give(0, 1) = false
        give(0, 6) = false
        give(0, -2) = false
        give(1, 0) = false
        give(1, -1) = false
        give(-1, 0) = false
        give(-1, -1) = false
        give(2147483647, 0) = false
        give(0, 2147483647) = false
        give(0, 0) = true

        says 29: RESTS: how many pairs would rather.
        rests() = 0
        name(1, 9)
        name(1, 9)
        family(1, 1)
        family(1, 1)
        rests() = 0
        wants(0, 0, 1)
        wants(0, 1, 1)
        wants(1, 0, 1)
        wants(1, 1, 1)
        rests() = 4
        give(0, 0)
        rests() = 1
        give(1, 1)
        rests() = 0

        says 30: GLADDEST: the NAME.
        name(1, 9)
        name(1, 9)
        family(1, 1)
        family(1, 1)
        wants(0, 1, 1)
        wants(1, 0, 1)
        gladdest(0) = 1
        gladdest(1) = 0

        says 30: NONE: none, and for others.
        gladdest(0) = -1
        family(1, 1)
        gladdest(0) = -1
        name(1, 9)
        gladdest(0) = -1
        wants(0, 0, 1)
        gladdest(0) = 0
        wants(1, 0, 1)
        gladdest(1) = -1
        gladdest(-1) = -1
        gladdest(5) = -1
        gladdest(2147483647) = -1

        says 31: WHOLE: the upper (low false), the lower one (low true).
        name(12, 9)
        stone(1, true)
        whole(0, 0, 1, false) = 7
        whole(0, 0, 1, true) = 10
        whole(0, 0, 0, false) = 1
        whole(0, 0, 0, true) = 1
        read breaks 10; = 0
        by(0)
        whole(0, 0, 1, false) = 0
        whole(0, 0, 1, true) = 1
        read breaks 1;lay 2;lay 3;lay 4;lay 5;lay 6;lay 7;lay 8;lay 9; = 1
        by(1)
        played(1) = -1
        whole(0, 0, 9, false) = 387420489
        whole(0, 0, 9, true) = 1000000000

        says 31: NONE for others.
        whole(0, 0, 0, true) = -1
        name(12, 9)
        whole(0, 1, 0, true) = -1
        whole(0, -1, 0, true) = -1
        whole(0, -1, -1, false) = -1
        whole(0, 0, 10, true) = -1
        whole(0, 10, 10, true) = -1
        whole(1, 0, 0, true) = -1
        whole(-1, 0, 0, false) = -1
        whole(2147483647, 0, 0, true) = -1
        whole(0, 0, 2147483647, true) = -1
        whole(0, -2147483648, 9, true) = -1
        whole(0, 9, 9, true) = 1

        says 32: TO CLEAR: STONES (bits).
        name(12, 9)
        clear(0, 0, 9, 10) = 0
        stone(0, true)
        stone(1, true)
        stone(9, true)
        clear(0, 0, 9, 10) = 514
        clear(0, 0, 9, 7) = 2
        clear(0, 0, 9, 4) = 0
        is(3) = 515

        says 32: NONE for others (1 .. 10).
        clear(0, 0, 9, 10) = -1
        name(12, 9)
        stone(3, true)
        clear(0, 0, 9, 0) = -1
        clear(0, 0, 9, 1) = 0
        clear(0, 0, 9, 10) = 8
        clear(0, 0, 9, 11) = -1
        clear(0, 0, 9, -1) = -1
        clear(0, 1, 0, 5) = -1
        clear(0, -1, 9, 5) = -1
        clear(0, 0, 10, 5) = -1
        clear(1, 0, 9, 5) = -1
        clear(-1, 0, 9, 5) = -1
        clear(2147483647, 0, 9, 5) = -1
        clear(0, 0, 9, 2147483647) = -1
        """;

    static final String COUNTED = """
        says 33: A HALF: how many there are (sounds NONE: none any more).
        name(12, 9)
        half(1) = 1
        half(2) = 2
        half(2) = 3
        joins(-1) = 1
        half(-1) = 0
        about(5) = 0
        joins(-1) = 0
        half(-1) = 0
        half(2) = 1
        joins(-1) = 0

        says 33: -2 for others,
        half(0) = -2
        half(-2) = -2
        half(10) = -2
        half(90909) = -2
        half(111111) = -2
        half(2147483647) = -2
        half(-2147483648) = -2
        about(5) = 0
        half(99999) = 1

        says 33: or if there are 8.
        7 times half(1)
        half(1) = 8
        half(1) = -2
        half(2) = -2
        about(5) = 8
        half(-1) = 0
        half(1) = 1

        says 34: JOINED: how many (i NONE),
        joins(-1) = 0
        name(12, 9)
        half(1)
        joins(-1) = 0
        half(2)
        joins(-1) = 1
        half(2)
        joins(-1) = 1
        half(1)
        joins(-1) = 2

        says 34: 100 times the one of the i-th pair and 10 times the other one, and the NAME.
        5 times name(9, 9)
        name(12, 9)
        6 times half(3)
        half(2)
        half(1)
        joins(-1) = 1
        joins(0) = 765

        says 34: -2 if there is none such.
        joins(0) = -2
        name(12, 9)
        half(1)
        half(2)
        joins(0) = 10
        joins(1) = -2
        joins(-2) = -2
        joins(4) = -2
        joins(2147483647) = -2
        joins(-2147483648) = -2

        says 35: LAYERS (bits).
        name(1, 0)
        name(1, 9)
        layers(0) = 0
        layers(1) = 1
        layers(2) = 512
        layers(3) = 513

        says 35: NONE for others.
        layers(0) = 0
        layers(1) = -1
        name(1, 0)
        layers(1) = 1
        layers(2) = -1
        layers(3) = -1
        layers(-1) = -1
        layers(64) = -1
        layers(2147483647) = -1
        layers(-2147483648) = -1
        5 times name(1, 1)
        layers(63) = 3
        layers(64) = -1

        says 36: RHYME.
        name(1234, 9)
        name(234, 9)
        rhyme(0, 1) = 3
        rhyme(1, 0) = 3

        says 36: NONE for others.
        rhyme(0, 0) = -1
        name(1234, 9)
        rhyme(0, 1) = -1
        rhyme(1, 0) = -1
        rhyme(-1, 0) = -1
        rhyme(0, -1) = -1
        rhyme(0, 6) = -1
        rhyme(2147483647, 0) = -1

        says 37: KINDRED: the NAME.
        name(1234, 9)
        name(9, 9)
        name(4, 9)
        kindred(0) = 2
        kindred(2) = 0

        says 37: NONE: none, and for others.
        kindred(0) = -1
        name(1234, 9)
        kindred(0) = -1
        name(4321, 9)
        kindred(0) = -1
        kindred(1) = -1
        kindred(2) = -1
        kindred(-1) = -1
        kindred(6) = -1
        kindred(2147483647) = -1

        says 38: THE QUOTA: true.
        family(9, 1)
        quota(9) = true
        coalitions() = 1
        quota(99) = true
        coalitions() = 0
        quota(1) = true
        coalitions() = 1

        says 38: False for others (1 .. 99).
        family(9, 1)
        quota(0) = false
        quota(-1) = false
        quota(100) = false
        quota(2147483647) = false
        quota(-2147483648) = false
        coalitions() = 0
        family(1, 1)
        coalitions() = 1

        says 39: POWER: the upper (low false), the lower one (low true).
        family(9, 1)
        family(1, 1)
        family(1, 1)
        power(0, false) = 2
        power(0, true) = 3
        power(1, false) = 1
        power(1, true) = 6
        power(2, true) = 6

        says 39: NONE for others.
        power(0, false) = -1
        family(9, 1)
        power(0, true) = 1
        power(1, false) = -1
        power(1, true) = -1
        power(-1, true) = -1
        power(5, false) = -1
        power(2147483647, true) = -1

        says 40: DUMMIES (bits).
        dummies() = 0
        family(1, 1)
        dummies() = 1
        family(9, 1)
        dummies() = 0
        family(9, 1)
        dummies() = 0
        quota(11)
        dummies() = 1

        says 41: VETO (bits).
        veto() = 0
        family(1, 1)
        veto() = 1
        family(9, 1)
        veto() = 3
        family(9, 1)
        veto() = 0
        quota(11)
        veto() = 6

        says 42: COALITIONS.
        coalitions() = 0
        family(1, 1)
        coalitions() = 0
        family(9, 1)
        coalitions() = 1
        family(9, 1)
        coalitions() = 4
        5 times family(9, 1)
        quota(1)
        coalitions() = 31

        says 43: SAID: how many there are (name NONE: none any more).
        name(1, 9)
        read melts 5; = 0
        said(0, 5) = 1
        said(0, 6) = 2
        about(6) = 2
        whose() = 0
        said(-1, 5) = 0
        about(6) = 0
        whose() = 1
        said(-1, 1000) = 0
        said(0, 5) = 1

        says 43: -2 for others,
        said(0, 0) = -2
        name(1, 9)
        said(1, 0) = -2
        said(-2, 0) = -2
        said(6, 0) = -2
        said(0, 100) = -2
        said(0, -100) = -2
        said(2147483647, 0) = -2
        said(0, -2147483648) = -2
        about(6) = 0
        said(0, 99) = 1
        said(0, -99) = 2

        says 43: or if there are 8.
        name(1, 9)
        7 times said(0, 1)
        said(0, 1) = 8
        said(0, 1) = -2
        about(6) = 8
        said(-1, 0) = 0
        said(0, 1) = 1

        says 44: WHOSE LAW (bits).
        whose() = 0
        name(1, 3)
        read melts 5; = 0
        read melts 6; = 1
        read melts 5; = 2
        read melts layer+2; = 3
        whose() = 15
        said(0, 5)
        whose() = 13
        said(-1, 0)
        said(0, 6)
        whose() = 2
        said(0, 5)
        whose() = 0

        says 45: RICHEST.
        name(1, 9)
        name(1, 9)
        family(1, 9)
        family(1, 2)
        call(1)
        hour(1) = 1
        richest() = 1

        says 45: NONE: none.
        richest() = -1
        family(1, 2)
        richest() = -1
        name(1, 9)
        call(0)
        richest() = -1
        hour(1) = 1
        richest() = 0
        sink(0)
        richest() = -1

        says 46: NEXT TO THE MILL.
        name(1, 9)
        name(1, 9)
        call(1)
        hour(1)
        call(0)
        next() = 1
        hour(1)
        next() = 1

        says 46: NONE: none.
        next() = -1
        name(1, 9)
        next() = -1
        call(0)
        next() = 0
        hour(4)
        next() = 0
        hour(1)
        next() = -1
        name(1, 9)
        family(1, 1)
        call(1)
        hour(1) = 1
        next() = -1

        says 47: FROZEN (bits).
        frozen() = 0
        name(1, 9)
        frozen() = 1
        name(1, 9)
        frozen() = 3
        call(0)
        frozen() = 2
        call(1)
        frozen() = 0
        hour(5)
        frozen() = 0

        says 48: BY THE BOOK.
        name(12, 9)
        read breaks 10; = 0
        by(0)
        stone(2, true)
        call(0)
        hour(5)
        ledger(0) = 0
        ledger(1) = 1
        ledger(2) = 1
        undo()
        ledger(1) = 0
        name(1, 9)
        family(1, 2)
        call(1)
        hour(1) = 0
        ledger(0) = 0
        undo()
        stand(0, 1)
        hour(1) = 1
        ledger(0) = 1
        ledger(1) = 1

        says 48: -2 for others (0 .. 2).
        ledger(-1) = -2
        ledger(3) = -2
        ledger(2147483647) = -2
        ledger(-2147483648) = -2
        ledger(0) = 0
        ledger(1) = 0
        ledger(2) = 0

        says 49: THE IMAGE is as all is now: HOUR.
        image() = 0
        hour(4)
        image() = 4
        hour(2)
        image() = 6
        hour(1)
        back() = 6
        is(0) = 6

        says 50: BACK to THE IMAGE (it stays): HOUR.
        hour(2)
        stone(3, true)
        image() = 2
        hour(3)
        stone(3, false)
        back() = 2
        is(3) = 8
        is(1) = 3285
        hour(7)
        stone(4, true)
        back() = 2
        is(3) = 8
        is(1) = 3285
        undo() = 2
        is(3) = 0
        back() = 2
        is(3) = 8
        about(4) = 3
        back() = 2

        says 51: 0 NAMES, 1 FAMILIES, 2 TEXTS, 3 THE TEXT (NONE), 4 STEPS that can be taken back, 5 HALVES, 6 SAID, 7 bytes of the tape.
        about(3) = -1
        name(1, 9)
        2 times family(1, 1)
        3 times text()
        by(2)
        hour(4)
        5 times half(1)
        6 times said(0, 1)
        tape abcdefg
        about(0) = 1
        about(1) = 2
        about(2) = 3
        about(3) = 2
        about(4) = 4
        about(5) = 5
        about(6) = 6
        about(7) = 7

        says 51: -2 for others.
        about(-1) = -2
        about(8) = -2
        about(2147483647) = -2
        about(-2147483648) = -2
        """;

    private SentencesOfPromises() {
    }
}
