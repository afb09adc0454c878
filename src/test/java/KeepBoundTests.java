/**
 * Sentence by sentence what the document says of the bounds of what is remembered and kept (promises 1, 15 and 36 to
 * 38): the last that is taken and the first that is not.
 */
public final class KeepBoundTests {
    private static final Check check = new Check("KeepBoundTests");

    public static void main(String[] args) {
        nothingTold();
        twelveRemembered();
        twelveOfManyAtOnce();
        undoneAnswers();
        allThatWasDone();
        undoneLater();
        undoneDebts();
        newOnesThen();
        allThatCanBe();
        latestSinceItBegan();
        latestOfMany();
        latestOfNewHouse();
        oneImage();
        imageIsOfAll();
        butForTheTape();
        noMonthsThen();
        noneWasKept();
        imageOutlivesUndo();
        check.finish();
    }

    private static VintageWater land() {
        return Check.water("cistern 90;cistern 20;cistern 5;pour 80 of 0 in 0;house 2 at 0;house 4 at 2;leak 0 to 1 1");
    }

    private static void nothingTold() {
        check.says("VintageWater(): Nothing told.");
        VintageWater x = new VintageWater();
        for (int what = 0; what <= 13; what++) check.due("count(" + what + ")", x.count(what), what == 3 ? -1 : 0);
        check.due("fault()", x.fault(), -1);
        check.due("end(0)", x.end(0), true);
        check.due("end(1)", x.end(1), false);
        for (int y = 0; y < 30; y++) check.due("salt(" + y + ")", x.salt(y), 0);
        check.throwsJust("IndexOutOfBoundsException", "cistern(0, 0)", () -> x.cistern(0, 0));
        check.throwsJust("IndexOutOfBoundsException", "house(0, 0)", () -> x.house(0, 0));
        check.throwsJust("IndexOutOfBoundsException", "debt(0)", () -> x.debt(0));
        check.due("undo()", x.undo(), -1);
        check.due("back()", x.back(), false);
        check.due("seed(1)", x.seed(1), 1);
        check.due("lasts()", x.lasts(), 60);
        check.due("worst()", x.worst(), -1);
        check.gives("judge()", x::judge, -1);
        check.gives("look()", x::look, -1);
        check.due("site(1)", x.site(1), -1);
        check.due("order(true)", x.order(true), 0);
        check.due("enough(60, 24)", x.enough(60, 24), 60);
        check.gives("land()", x::land, 1);
        check.gives("law()", x::law, 0);
        check.due("months(60)", x.months(60), 0);
        // One object knows nothing of another.
        VintageWater other = new VintageWater();
        Check.land(other, "cistern 9;salt 3 4");
        check.due("salt(3) of the one", x.salt(3), 0);
        check.due("CISTERNS of the one", x.count(0), 0);
    }

    private static void twelveRemembered() {
        check.says("12 are remembered");
        for (int months = 0; months <= 14; months++) {
            VintageWater x = land();
            for (int i = 0; i < months; i++) x.months(1);
            check.due("MONTHS that can be UNDONE, of " + months, x.count(11), Math.min(12, months));
            for (int i = 1; i <= Math.min(12, months); i++) {
                check.due("undo()", x.undo(), months - i);
                check.due("layer(0, 0) of MONTH " + (months - i), x.layer(0, 0), 80 - 3 * (months - i));
                check.due("MONTHS that can be UNDONE", x.count(11), Math.min(12, months) - i);
            }
            check.due("undo() without one", x.undo(), -1);
            check.due("MONTH", x.count(4), Math.max(0, months - 12));
            check.due("layer(0, 0)", x.layer(0, 0), 80 - 3 * Math.max(0, months - 12));
        }
    }

    private static void twelveOfManyAtOnce() {
        check.says("UNDONE: the latest MONTH, .. 12 are remembered");
        for (int first : new int[] {0, 1, 11, 12, 13, 60}) {
            for (int n : new int[] {1, 11, 12, 13, 60}) {
                VintageWater x = land();
                if (first > 0) x.months(first);
                x.months(n);
                int all = first + n;
                check.due("MONTHS that can be UNDONE, of " + first + " and " + n, x.count(11), Math.min(12, all));
                for (int i = 1; i <= Math.min(12, all); i++) check.due("undo() " + i + " of " + first + " and " + n, x.undo(), all - i);
                check.due("undo() without one", x.undo(), -1);
            }
        }
    }

    private static void undoneAnswers() {
        check.says("UNDONE: the MONTH then; NONE, and nothing happens, without one.");
        VintageWater x = land();
        String begun = Check.told(x);
        check.due("undo() without one", x.undo(), -1);
        check.same("nothing happens", Check.told(x), begun);
        x.months(1);
        check.due("undo()", x.undo(), 0);
        check.same("as it was", Check.told(x), begun);
        check.due("undo() once more", x.undo(), -1);
        check.same("nothing happens", Check.told(x), begun);
        // 12 again, though months were undone.
        for (int i = 0; i < 13; i++) x.months(1);
        for (int i = 0; i < 5; i++) x.undo();
        check.due("MONTHS that can be UNDONE", x.count(11), 7);
        x.months(4);
        check.due("MONTHS that can be UNDONE", x.count(11), 11);
        x.months(2);
        check.due("MONTHS that can be UNDONE", x.count(11), 12);
    }

    private static void allThatWasDone() {
        check.says("the latest MONTH, with all that was done since it began (texts, LAW, SEED, DEBTS, too");
        String[] done = {"months", "a text", "LAW", "SEED", "a DEBT", "settle", "oath", "winter", "seal", "swap", "mix"};
        for (int i = 0; i < done.length; i++) {
            VintageWater x = land();
            x.owe(0, 0, 9);
            Check.land(x, "house 1 at 1");
            Check.law(x, "first 2");
            x.oath(1, 99);
            Check.land(x, "cistern 9");
            String before = Check.told(x);
            x.months(1);
            String behind = Check.told(x);
            doThis(x, i);
            check.due(done[i] + " does something", behind.equals(Check.told(x)), false);
            if (i == 0) x.undo();
            check.due("undo()", x.undo(), 0);
            check.same("as it was ahead of the MONTH and " + done[i], Check.told(x), before);
        }
    }

    private static void doThis(VintageWater x, int which) {
        switch (which) {
            case 0: x.months(1); break;
            case 1: Check.land(x, "cistern 9;salt 0 5;house 3 at 0;leak 0 away 2;pour 2 of 3 in 1;seal 0"); break;
            case 2: Check.law(x, "bar"); break;
            case 3: x.seed(77); break;
            case 4: x.owe(0, 3, 5); break;
            case 5:
                Check.land(x, "pour 4 of 0 in 1");
                x.settle(0);
                break;
            case 6: x.oath(0, 3); break;
            case 7: x.winter(5); break;
            case 8: x.seal(1, true); break;
            case 9:
                Check.land(x, "pour 4 of 3 in 1");
                x.swap(0, 0, 1, 3, 2);
                break;
            default: x.mix(0, 1, 2); break;
        }
    }

    private static void undoneLater() {
        check.says("the latest MONTH, with all that was done since it began");
        // What was done behind a month ahead of the next one is undone with the former alone.
        VintageWater x = land();
        x.months(1);
        Check.law(x, "first 7");
        x.months(1);
        Check.law(x, "first 8;first 9");
        check.due("undo()", x.undo(), 1);
        check.due("LINES", x.count(3), 1);
        check.due("place(0, 0)", x.place(0, 0), 7);
        check.due("undo()", x.undo(), 0);
        check.due("LINES", x.count(3), -1);
        check.due("place(0, 0)", x.place(0, 0), 0);
        // What was done ahead of any month is not.
        Check.law(x, "first 3");
        x.months(1);
        x.undo();
        check.due("LINES", x.count(3), 1);
    }

    private static void undoneDebts() {
        check.says("(texts, LAW, SEED, DEBTS, too");
        // A debt comes back with its house and its year, though another one was in its place.
        VintageWater x = Check.water("cistern 9;cistern 9;cistern 9;pour 4 of 1 in 0;pour 5 of 2 in 0;house 0 at 1;house 0 at 2");
        x.months(1);
        x.owe(0, 1, 3);
        x.image();
        check.due("undo()", x.undo(), 0);
        check.due("owe", x.owe(1, 2, 4), 0);
        check.due("back()", x.back(), true);
        check.due("debt(0)", x.debt(0), 3);
        check.due("settle(0)", x.settle(0), 3);
        check.due("layer(1, 1)", x.layer(1, 1), 3);
        VintageWater y = Check.water("cistern 9;cistern 9;cistern 9;pour 4 of 1 in 0;pour 5 of 2 in 0;house 0 at 1;house 0 at 2");
        y.image();
        y.owe(0, 1, 3);
        y.months(1);
        y.back();
        y.owe(1, 2, 5);
        y.months(1);
        y.owe(0, 1, 2);
        y.undo();
        check.due("DEBTS", y.count(13), 1);
        check.due("debt(0)", y.debt(0), 5);
        check.due("settle(0)", y.settle(0), 5);
        check.due("layer(2, 2)", y.layer(2, 2), 5);
    }

    private static void newOnesThen() {
        check.says("(none at first) .. (0 at first) .. (0 to 99; 99 at first)");
        String first = "cistern 9;pour 9 of 0 in 0";
        String told = "cistern 9 cracked;cistern 9;pour 9 of 3 in 2;pour 2 of 4 in 1;seal 1;leak 1 to 0 2;leak 2 to 1 3;house 5 at 2 bears 7;house 9 at 1;salt 4 2";
        String then = "cistern 8;cistern 7;house 1 at 1;house 2 at 2";
        // What is told in place of what was undone, or was gone back from, is as new as it is at first.
        VintageWater x = Check.water(first);
        x.image();
        x.months(1);
        for (int i = 0; i < 2; i++) {
            Check.land(x, told);
            x.owe(0, 0, 3);
            x.months(4);
            if (i > 0) x.back();
            for (int n = 0; n < 5; n++) x.undo();
            Check.land(x, then);
            check.same(i > 0 ? "behind back()" : "behind undo()", Check.told(x), Check.told(Check.water(first, then)));
            x.back();
        }
    }

    private static void allThatCanBe() {
        check.says("(at most 8 CISTERNS, 8 HOUSES, 8 DEBTS, 10 texts), 12 are remembered");
        VintageWater x = Check.water("cistern 99" + ";cistern 99".repeat(7), "house 3 at 0;house 3 at 1;house 3 at 2;house 3 at 3;house 3 at 4;house 3 at 5;house 3 at 6;house 4 at 7",
            "pour 99 of 0 in 0;pour 99 of 1 in 1;pour 99 of 2 in 2;pour 99 of 3 in 3;pour 99 of 4 in 4;pour 99 of 5 in 5;pour 99 of 6 in 6;pour 9 of 29 in 7",
            "leak 0 to 7 1;leak 7 to 6 1;seal 6;salt 29 9;salt 0 9");
        for (int i = 0; i < 8; i++) check.due("owe", x.owe(7, i, 9), i);
        for (int i = 4; i < 10; i++) Check.land(x, "");
        Check.law(x, "bar" + " if holy;bar".repeat(11) + " if holy");
        check.gives("image()", () -> {
            x.image();
            return 0;
        }, 0);
        String kept = Check.told(x);
        check.gives("lasts()", x::lasts, 2);
        check.gives("worst()", x::worst, 7);
        check.gives("judge()", () -> Check.judge(x, "a0b1c2d3e4f5g6hMhM"), -1);
        check.gives("look()", () -> Check.look(x, 98, 99, 99, 99, 99, 99, 99, 10), 7);
        check.gives("order(false)", () -> x.order(false), 0);
        check.gives("enough(60, 24)", () -> x.enough(60, 24), 0);
        check.gives("site(9)", () -> x.site(9), -1);
        check.gives("owed(0, 99)", () -> x.owed(0, 99), 1);
        check.gives("months(13)", () -> x.months(13), 43);
        check.due("THIRST of all", x.count(12), 43);
        check.due("THIRST of 7", x.house(7, 3), 43);
        check.gives("foul(128)", () -> x.foul(128), 1 << 29);
        check.gives("settle(7)", () -> x.settle(7), 0);
        for (int i = 12; i >= 1; i--) check.gives("undo()", x::undo, i);
        check.gives("undo()", x::undo, -1);
        check.due("back()", x.back(), true);
        check.same("as it was kept", Check.told(x), kept);
    }

    private static void latestSinceItBegan() {
        check.says("What a HOUSE drank of a YEAR since the latest MONTH that is remembered began; NONE, if none is.");
        VintageWater x = Check.water("cistern 90;pour 3 of 0 in 0;pour 40 of 1 in 0;house 2 at 0");
        check.due("ahead of any MONTH", x.latest(0, 0), -1);
        x.months(1);
        check.due("latest(0, 0)", x.latest(0, 0), 2);
        check.due("latest(0, 1)", x.latest(0, 1), 0);
        x.months(1);
        check.due("latest(0, 0)", x.latest(0, 0), 1);
        check.due("latest(0, 1)", x.latest(0, 1), 1);
        x.undo();
        check.due("latest(0, 0) when it is undone", x.latest(0, 0), 2);
        x.undo();
        check.due("latest(0, 0) when none is remembered", x.latest(0, 0), -1);
        check.due("latest(0, 29) when none is remembered", x.latest(0, 29), -1);
        // None that is remembered, though there was one.
        x.months(1);
        x.image();
        x.back();
        check.due("MONTH", x.count(4), 1);
        check.due("latest(0, 0) behind back()", x.latest(0, 0), -1);
    }

    private static void latestOfMany() {
        check.says("since the latest MONTH that is remembered began");
        for (int n : new int[] {1, 2, 11, 12, 13, 14, 24, 25, 26}) {
            VintageWater x = Check.water("cistern 99;pour 99 of 0 in 0;house 3 at 0");
            x.months(n);
            check.due("latest(0, 0) of months(" + n + ")", x.latest(0, 0), 3);
            check.due("drank(0, 0)", x.drank(0, 0), 3 * n);
        }
    }

    private static void latestOfNewHouse() {
        check.says("What a HOUSE drank of a YEAR since the latest MONTH");
        VintageWater x = Check.water("cistern 99;pour 99 of 0 in 0;house 3 at 0");
        x.months(1);
        Check.land(x, "house 5 at 0");
        check.due("latest(1, 0) of a HOUSE told since", x.latest(1, 0), 0);
        x.months(1);
        check.due("latest(1, 0)", x.latest(1, 0), 5);
        check.due("latest(0, 0)", x.latest(0, 0), 3);
        // Nothing is left of what a house drank that was undone: a new one in its place drank nothing.
        x.undo();
        x.undo();
        Check.land(x, "house 7 at 0");
        check.due("drank(1, 0)", x.drank(1, 0), 0);
        x.months(1);
        check.due("latest(1, 0)", x.latest(1, 0), 7);
        check.due("drank(1, 0)", x.drank(1, 0), 7);
        // Nor was anything of it drunk ahead of the month, though that began where a month was undone.
        VintageWater y = Check.water("cistern 99;pour 99 of 0 in 0;house 3 at 0");
        y.months(1);
        Check.land(y, "house 5 at 0");
        y.months(2);
        for (int i = 0; i < 3; i++) y.undo();
        y.months(3);
        Check.land(y, "house 6 at 0");
        check.due("latest(1, 0)", y.latest(1, 0), 0);
        y.months(1);
        check.due("latest(1, 0)", y.latest(1, 0), 6);
    }

    private static void oneImage() {
        check.says("THE IMAGE (one) of all may be kept, and gone back to");
        VintageWater x = land();
        x.image();
        Check.land(x, "salt 0 5");
        x.image();
        Check.land(x, "salt 0 6");
        check.due("back()", x.back(), true);
        check.due("salt(0) of the latest image", x.salt(0), 5);
        Check.land(x, "salt 0 7");
        check.due("back() again", x.back(), true);
        check.due("salt(0)", x.salt(0), 5);
        check.due("back() again", x.back(), true);
        check.due("texts", x.count(2), 2);
    }

    private static void imageIsOfAll() {
        check.says("THE IMAGE (one) of all");
        for (int i = 0; i <= 10; i++) {
            VintageWater x = land();
            x.owe(0, 0, 9);
            Check.land(x, "cistern 9");
            Check.law(x, "first 2");
            x.oath(1, 99);
            x.image();
            String before = Check.told(x);
            doThis(x, i);
            check.due("doing " + i + " does something", before.equals(Check.told(x)), false);
            check.due("back()", x.back(), true);
            check.same("as it was ahead of doing " + i, Check.told(x), before);
        }
        // Fewer and more of all: what was told behind the image is gone, what was there ahead is there again.
        VintageWater x = new VintageWater();
        x.image();
        Check.land(x, "cistern 9;house 1 at 0;salt 0 9;pour 12 of 0 in 0");
        Check.law(x, "bar");
        x.owe(0, 0, 1);
        x.months(3);
        check.due("back()", x.back(), true);
        check.same("a new object again", Check.told(x), Check.told(new VintageWater()));
    }

    private static void butForTheTape() {
        check.says("(but for the TAPE, fault() and THE IMAGE itself; no MONTHS are remembered then)");
        VintageWater x = land();
        x.image();
        check.throwsJust("IllegalArgumentException", "land()", () -> Check.land(x, "salt 0 x"));
        Check.tell(x, "salt 0 8");
        check.due("back()", x.back(), true);
        check.due("fault()", x.fault(), 7);
        check.due("end(9)", x.end(9), false);
        check.due("end(8)", x.end(8), true);
        check.gives("land() of the TAPE as it was", x::land, 2);
        check.due("salt(0)", x.salt(0), 8);
        check.due("back(), THE IMAGE being there still", x.back(), true);
        check.due("salt(0)", x.salt(0), 0);
        check.due("fault() of the latest text", x.fault(), -1);
        // What was on the TAPE when the image was kept does not come again.
        Check.tell(x, "salt 1 1");
        x.image();
        x.end(0);
        x.back();
        check.due("end(1)", x.end(1), false);
    }

    private static void noMonthsThen() {
        check.says("no MONTHS are remembered then");
        VintageWater x = land();
        x.months(5);
        x.image();
        check.due("MONTHS that can be UNDONE behind image()", x.count(11), 5);
        check.due("back()", x.back(), true);
        check.due("MONTHS that can be UNDONE behind back()", x.count(11), 0);
        check.due("undo()", x.undo(), -1);
        check.due("MONTH", x.count(4), 5);
        x.months(1);
        check.due("MONTHS that can be UNDONE", x.count(11), 1);
        check.due("undo()", x.undo(), 5);
        check.due("undo()", x.undo(), -1);
        x.months(20);
        check.due("back()", x.back(), true);
        check.due("MONTHS that can be UNDONE", x.count(11), 0);
    }

    private static void noneWasKept() {
        check.says("One goes back to THE IMAGE: true; false, and nothing happens, if none was kept.");
        VintageWater x = land();
        x.months(2);
        String before = Check.told(x);
        check.due("back()", x.back(), false);
        check.same("nothing happens", Check.told(x), before);
        check.due("MONTHS that can be UNDONE", x.count(11), 2);
        check.due("undo()", x.undo(), 1);
        x.image();
        check.due("back()", x.back(), true);
    }

    private static void imageOutlivesUndo() {
        check.says("UNDONE: .. THE IMAGE (one) of all may be kept");
        // An image is no part of the land: a month that is undone leaves it as it is.
        VintageWater x = land();
        x.months(1);
        x.image();
        check.due("undo()", x.undo(), 0);
        check.due("back()", x.back(), true);
        check.due("MONTH", x.count(4), 1);
        VintageWater y = land();
        y.image();
        y.months(1);
        Check.law(y, "bar");
        check.throwsJust("IllegalArgumentException", "land()", () -> Check.land(y, "salt x"));
        Check.tell(y, "seal 0");
        check.due("undo()", y.undo(), 0);
        check.due("fault() is as it was", y.fault(), 5);
        check.gives("land() of the TAPE as it was", y::land, 2);
        check.due("SEALED", y.cistern(0, 2), 1);
    }
}
