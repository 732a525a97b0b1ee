/** 'Description', from its first word to its last: a run of calls for each sentence. */
public final class DescriptionTest {
    private static final Page PAGE = new Page("Description", "Promise 1: A new object");

    private DescriptionTest() {
    }

    private static void steps() {
        PAGE.tells("Steps.");
        PAGE.says("The table of increments consists of 1 to 6 rows, each with a bound and an increment from 1 to 5000;")
                .due("setRows(4, 3000, 5000)", 5).due("setRows(5, 90000, 1)", 6)
                .due("row(5, 0)", 90000).due("row(5, 1)", 1).due("row(4, 1)", 5000)
                .throwsIndex("setRows(6, 90000, 1)")
                .throwsArgument("setRows(2, 700, 0)").throwsArgument("setRows(2, 700, 5001)")
                .due("setRows(0, 0, 1)", 1).due("row(0, 1)", 1).throwsIndex("row(1, 0)");
        PAGE.says("the bound of the first row is 0, and the bounds ascend up to at most 90000.")
                .throwsArgument("setRows(0, 1, 10)")
                .throwsArgument("setRows(1, 0, 10)").throwsArgument("setRows(1, 90001, 10)")
                .due("setRows(1, 90000, 10)", 2)
                .throwsArgument("setRows(2, 90000, 20)")
                .due("row(0, 0)", 0).due("row(1, 0)", 90000);
        PAGE.says("The steps are prices: the first one is the increment of the first row, and each next one is a step "
                + "plus the increment of the last row whose bound is not greater than this step.")
                .due("setRows(0, 0, 7)", 1).due("setRows(1, 14, 3)", 2).due("setRows(2, 16, 10)", 3)
                .due("nextStep(0)", 7).due("nextStep(7)", 14).due("nextStep(14)", 17).due("nextStep(17)", 27)
                .due("nextStep(27)", 37);
        PAGE.says("At first, the rows are 0 and 10, 100 and 20, 500 and 50, 2000 and 100.")
                .due("row(0, 0)", 0).due("row(0, 1)", 10).due("row(1, 0)", 100).due("row(1, 1)", 20)
                .due("row(2, 0)", 500).due("row(2, 1)", 50).due("row(3, 0)", 2000).due("row(3, 1)", 100)
                .throwsIndex("row(4, 0)");
        PAGE.says("The step of an amount is the greatest step that is not greater than it, or 0 if there is none.")
                .due("step(0)", 0).due("step(9)", 0).due("step(10)", 10).due("step(119)", 100).due("step(120)", 120)
                .due("step(99999)", 99900);
    }

    private static void people() {
        PAGE.tells("People.");
        PAGE.says("There are ten bidders, 0 to 9, each with a credit from 0 to 999999, and six sellers, 0 to 5.")
                .due("setCredit(0, 0)", 20000).due("setCredit(9, 999999)", 20000)
                .due("bidder(0, 0)", 0).due("bidder(9, 0)", 999999)
                .throwsIndex("setCredit(-1, 0)").throwsIndex("setCredit(10, 0)")
                .throwsArgument("setCredit(0, -1)").throwsArgument("setCredit(0, 1000000)")
                .due("addLot(0, 1, 0)", 0).due("addLot(5, 1, 0)", 1)
                .throwsArgument("addLot(-1, 1, 0)").throwsArgument("addLot(6, 1, 0)")
                .due("seller(5, 0)", 0).throwsIndex("seller(6, 0)");
        PAGE.says("The house is told as bidder 10.")
                .does("addLot(0, 1, 100)").does("open(0)").due("standing(0, 1)", 10);
    }

    private static void lots() {
        PAGE.tells("Lots.");
        PAGE.says("At most 20 lots are made, numbered from 0.")
                .due("addLot(0, 1, 0)", 0).due("addLot(0, 1, 0)", 1).times(17, "addLot(0, 1, 0)")
                .due("addLot(0, 1, 0)", 19).throwsState("addLot(0, 1, 0)").due("lots(-1)", 20);
        PAGE.says("A lot has a seller, a quantity from 1 to 20, a reserve from 0 to 90000, and a state: 0 waiting, "
                + "1 open, 2 sold, 3 bought in, 4 withdrawn, 5 split, 6 grouped.")
                .does("addLot(3, 20, 90000)").due("lot(0, 1)", 3).due("lot(0, 2)", 20).due("lot(0, 3)", 90000)
                .does("addLot(3, 1, 0)").due("lot(1, 2)", 1).due("lot(1, 3)", 0)
                .throwsArgument("addLot(3, 0, 0)").throwsArgument("addLot(3, 21, 0)")
                .throwsArgument("addLot(3, 1, -1)").throwsArgument("addLot(3, 1, 90001)")
                .due("lot(1, 0)", 0)
                .does("open(1)").due("lot(1, 0)", 1)
                .does("bid(1, 0, 10)").does("close(1)").due("lot(1, 0)", 2)
                .does("open(0)").does("close(0)").due("lot(0, 0)", 3)
                .does("addLot(2, 1, 0)").does("withdraw(2)").due("lot(2, 0)", 4)
                .does("addLot(2, 2, 0)").does("split(3, 2)").due("lot(3, 0)", 5)
                .does("group(4, 5)").due("lot(4, 0)", 6).due("lot(5, 0)", 6).due("lot(6, 0)", 0);
    }

    private static void orders() {
        PAGE.tells("Orders.");
        PAGE.says("An order of a bidder for a lot has a maximum from 1 to 90000.")
                .does("addLot(0, 1, 0)").does("setCredit(0, 999999)")
                .throwsArgument("order(0, 0, 0)").due("order(0, 0, 1)", 1).due("maximum(0, 0)", 1)
                .throwsArgument("order(0, 0, 90001)").due("order(0, 0, 90000)", 1).due("maximum(0, 0)", 90000);
        PAGE.says("A bidder has at most one order for a lot.")
                .does("addLot(0, 1, 0)").does("addLot(0, 1, 0)")
                .due("order(0, 0, 50)", 1).due("order(0, 0, 60)", 1).due("orders(0)", 1).due("maximum(0, 0)", 60)
                .due("order(1, 0, 50)", 2).due("orders(0)", 1).due("orders(1)", 1);
        PAGE.says("At most 40 orders are kept.")
                .times(5, "addLot(0, 1, 0)")
                .each(0, 9, "order(0, #, 50)").each(0, 9, "order(1, #, 50)").each(0, 9, "order(2, #, 50)")
                .each(0, 8, "order(3, #, 50)").due("order(3, 9, 50)", 40)
                .refused("order(4, 0, 50)", 9).due("orders(-1)", 40);
    }

    private static void limits() {
        PAGE.tells("Limits.");
        PAGE.says("The limit of a bidder on an open lot is the greater one of the step of the maximum of the order, if "
                + "there is one for this lot, and the greatest live bid made since the lot was opened the last time;")
                .times(2, "addLot(0, 1, 0)")
                .does("order(0, 0, 119)").does("order(1, 1, 500)").due("open(0)", 10)
                .due("limit(0, 0, 1)", 100).throwsElement("limit(0, 1, 1)")
                .due("bid(0, 1, 20)", 30).due("limit(0, 1, 1)", 20)
                .due("bid(0, 1, 120)", 120).due("limit(0, 0, 0)", 1).due("limit(0, 0, 1)", 120)
                .does("order(0, 1, 139)").due("limit(0, 0, 1)", 120)
                .does("order(0, 1, 140)").due("limit(0, 0, 1)", 140);
        PAGE.again()
                .does("addLot(0, 1, 1000)").does("open(0)").does("bid(0, 3, 20)").due("standing(0, 6)", 1)
                .does("close(0)").does("offer(0, 500)").does("open(0)").due("standing(0, 6)", 0);
        PAGE.says("it counts if it is greater than 0.")
                .does("setRows(0, 0, 100)").does("addLot(0, 1, 0)").does("order(0, 0, 99)").does("order(0, 1, 100)")
                .does("open(0)").due("standing(0, 6)", 1).due("limit(0, 0, 0)", 1).throwsElement("limit(0, 1, 0)");
        PAGE.says("The time of a limit is the number of the order or bid that led to it, where all orders and live bids "
                + "of the sale are numbered from 1 in the order in which they are accepted;")
                .times(2, "addLot(0, 1, 0)")
                .does("order(0, 5, 50)").does("order(1, 5, 50)").does("order(0, 6, 70)").does("open(0)")
                .refused("bid(0, 6, 80)", 2).due("bid(0, 7, 80)", 80)
                .due("limit(0, 0, 0)", 7).due("limit(0, 0, 2)", 4)
                .due("limit(0, 1, 0)", 6).due("limit(0, 1, 2)", 3)
                .due("limit(0, 2, 0)", 5).due("limit(0, 2, 2)", 1);
        PAGE.says("if both lead to the same limit, the lesser number counts.")
                .does("addLot(0, 1, 0)").does("open(0)").does("bid(0, 0, 50)").does("order(0, 0, 59)")
                .due("limit(0, 0, 1)", 50).due("limit(0, 0, 2)", 1)
                .does("order(0, 0, 60)").due("limit(0, 0, 1)", 60).due("limit(0, 0, 2)", 3);
        PAGE.says("The limit of the house is the greatest step that is less than the reserve, or 0 if there is none.")
                .does("addLot(0, 1, 100)").does("addLot(0, 1, 101)").does("addLot(0, 1, 10)").does("addLot(0, 1, 11)")
                .does("addLot(0, 1, 0)").each(0, 4, "open(#)")
                .due("standing(0, 4)", 90).due("standing(1, 4)", 100).due("standing(2, 4)", 0)
                .due("standing(3, 4)", 10).due("standing(4, 4)", 0);
    }

    private static void standing() {
        PAGE.tells("Standing.");
        PAGE.says("The leader of an open lot is the bidder with the greatest limit that counts;")
                .does("addLot(0, 1, 0)").does("order(0, 0, 50)").does("order(0, 1, 70)").does("order(0, 2, 60)")
                .due("open(0)", 70).due("standing(0, 1)", 1);
        PAGE.says("of several, the one whose limit has the least time.")
                .does("addLot(0, 1, 0)").does("order(0, 4, 50)").does("order(0, 2, 50)").does("order(0, 7, 50)")
                .due("open(0)", 50).due("standing(0, 1)", 4).due("standing(0, 5)", 50);
        PAGE.says("If the limit of the house is greater than those of all bidders, the house leads;")
                .does("addLot(0, 1, 100)").does("order(0, 0, 89)").due("open(0)", 90).due("standing(0, 1)", 10)
                .does("order(0, 0, 90)").due("standing(0, 1)", 0);
        PAGE.says("if no limit counts and that of the house is 0, nobody leads.")
                .does("addLot(0, 1, 10)").does("order(0, 0, 9)").due("open(0)", 0).due("standing(0, 1)", -1);
        PAGE.says("The price is 0 if nobody leads;")
                .does("addLot(0, 1, 0)").due("open(0)", 0).due("standing(0, 0)", 0)
                .due("bid(0, 0, 20)", 10).due("standing(0, 0)", 10);
        PAGE.says("otherwise it is the lesser one of the limit of the leader and the least step that is greater than "
                + "the second limit, which is the greatest limit of all others, the house included, or 0.")
                .does("addLot(0, 1, 0)").does("order(0, 0, 200)").due("open(0)", 10).due("standing(0, 5)", 0)
                .does("order(0, 1, 50)").does("order(0, 2, 30)").due("standing(0, 0)", 60).due("standing(0, 5)", 50)
                .does("order(0, 1, 199)").due("standing(0, 0)", 200).due("standing(0, 5)", 180);
        PAGE.again()
                .does("addLot(0, 1, 100)").does("order(0, 0, 200)").does("order(0, 1, 50)")
                .due("open(0)", 100).due("standing(0, 5)", 90);
        PAGE.again()
                .does("addLot(0, 1, 100)").does("order(0, 0, 90)").due("open(0)", 90).due("standing(0, 1)", 0)
                .due("standing(0, 5)", 90);
        PAGE.says("The reserve is met if a bidder leads and the price is at least the reserve.")
                .does("addLot(0, 1, 90)").does("order(0, 0, 70)").does("open(0)")
                .due("standing(0, 1)", 10).due("standing(0, 3)", 0)
                .does("order(0, 0, 80)").due("standing(0, 1)", 0).due("standing(0, 0)", 80).due("standing(0, 3)", 0)
                .does("order(0, 0, 90)").due("standing(0, 0)", 90).due("standing(0, 3)", 1);
        PAGE.again().does("addLot(0, 1, 0)").does("open(0)").due("standing(0, 3)", 0)
                .does("bid(0, 0, 10)").due("standing(0, 3)", 1);
        PAGE.says("The ask is the least step that is greater than the price.")
                .does("addLot(0, 1, 0)").does("open(0)").due("standing(0, 2)", 10)
                .due("bid(0, 0, 120)", 10).due("standing(0, 2)", 20)
                .due("bid(0, 1, 100)", 120).due("standing(0, 2)", 140);
    }

    private static void bids() {
        PAGE.tells("Bids.");
        PAGE.says("A live bid on a lot is refused for the first of these reasons: 1, the lot is not open; 2, the bidder "
                + "leads; 3, the amount is less than the ask; 4, the amount is not a step; 5, the amount plus the "
                + "exposure of the bidder is greater than the credit.")
                .does("addLot(0, 1, 0)").does("setCredit(0, 45)").refused("bid(0, 0, 11)", 1)
                .does("open(0)").does("bid(0, 0, 40)")
                .refused("bid(0, 0, 11)", 2).refused("bid(0, 0, 99)", 2)
                .does("bid(0, 1, 60)").due("standing(0, 2)", 60)
                .refused("bid(0, 0, 59)", 3).refused("bid(0, 0, 61)", 4).refused("bid(0, 0, 60)", 5)
                .does("setCredit(0, 60)").due("bid(0, 0, 60)", 60).due("standing(0, 1)", 1)
                .refused("bid(0, 0, 70)", 5).does("setCredit(0, 70)").due("bid(0, 0, 70)", 70);
        PAGE.says("An order is refused for the first of these: 6, the lot is neither waiting nor open; 7, the bidder has "
                + "an order for this lot with a maximum that is not less; 8, the maximum is greater than the credit; "
                + "9, 40 orders are kept and the bidder has none for this lot.")
                .times(6, "addLot(0, 1, 0)").does("withdraw(5)").does("setCredit(0, 50)")
                .refused("order(5, 0, 51)", 6)
                .each(0, 9, "order(0, #, 50)").each(0, 9, "order(1, #, 50)").each(0, 9, "order(2, #, 50)")
                .each(0, 9, "order(3, #, 50)")
                .does("setCredit(0, 40)")
                .refused("order(0, 0, 50)", 7).refused("order(0, 0, 49)", 7).refused("order(0, 0, 51)", 8)
                .refused("order(4, 0, 41)", 8).refused("order(4, 0, 40)", 9)
                .does("open(4)").refused("order(4, 0, 40)", 9).does("setCredit(0, 51)").due("order(0, 0, 51)", 40);
        PAGE.says("An order that is accepted replaces an earlier one of the bidder for this lot.")
                .does("addLot(0, 1, 0)").does("order(0, 0, 50)").does("order(0, 1, 60)").due("order(0, 0, 70)", 2)
                .due("maximum(0, 0)", 70).due("maximum(0, 1)", 60).due("orders(0)", 2)
                .due("cancel(0, 0)", 70).throwsElement("maximum(0, 0)");
        PAGE.says("The exposure of a bidder is the sum of the prices of all lots that the bidder bought, and of the "
                + "limits of the bidder on all open lots on which the bidder leads.")
                .times(5, "addLot(0, 1, 0)").each(0, 3, "open(#)")
                .due("bid(0, 0, 300)", 10).due("bidder(0, 5)", 300)
                .due("bid(1, 0, 50)", 10).due("bidder(0, 5)", 350)
                .due("close(0)", 10).due("bidder(0, 5)", 60)
                .due("bid(2, 0, 40)", 10).due("bidder(0, 5)", 100)
                .due("bid(2, 1, 60)", 50).due("bidder(0, 5)", 60).due("bidder(1, 5)", 60)
                .due("order(4, 0, 90)", 1).due("bidder(0, 5)", 60).does("open(4)").due("bidder(0, 5)", 150);
    }

    private static void closing() {
        PAGE.tells("Closing.");
        PAGE.says("When an open lot is closed, it is sold to the leader at the price if the reserve is met; otherwise "
                + "it is bought in.")
                .does("addLot(0, 1, 90)").does("addLot(0, 1, 90)").does("order(0, 3, 90)").does("order(1, 3, 80)")
                .does("open(0)").does("open(1)")
                .due("close(0)", 90).due("lot(0, 0)", 2).due("sold(0, false)", 3).due("sold(0, true)", 90)
                .due("close(1)", 0).due("lot(1, 0)", 3).throwsElement("sold(1, true)");
        PAGE.says("Its orders are removed then.")
                .does("addLot(0, 1, 90)").does("addLot(0, 1, 90)").does("order(0, 3, 90)").does("order(1, 3, 80)")
                .does("open(0)").does("open(1)").due("orders(-1)", 2)
                .does("close(0)").due("orders(0)", 0).due("orders(-1)", 1).throwsElement("maximum(0, 3)")
                .does("close(1)").due("orders(1)", 0).due("orders(-1)", 0)
                .does("offer(1, 0)").due("orders(1)", 0).does("open(1)").due("standing(1, 6)", 0);
        PAGE.says("A sold lot costs the buyer the price and the premium, which is 25 percent of the part of the price up "
                + "to 1000, 20 percent of the part above that up to 5000, and 12 percent of the rest, each one rounded "
                + "down.")
                .due("premium(3)", 0).due("premium(4)", 1).due("premium(1000)", 250).due("premium(1004)", 250)
                .due("premium(1005)", 251).due("premium(5000)", 1050).due("premium(5008)", 1050)
                .due("premium(5009)", 1051).due("premium(99999)", 12449)
                .does("addLot(0, 1, 2100)").does("order(0, 6, 3000)").does("open(0)").due("close(0)", 2100)
                .due("bidder(6, 1)", 2100).due("bidder(6, 2)", 470).due("bidder(6, 3)", 2570);
        PAGE.says("Of a sold lot, the seller gets the price less the commission, which is 10 percent of the price, "
                + "rounded down, but at least 5 and at most the price.")
                .does("setRows(0, 0, 1)").does("addLot(0, 1, 3)").does("addLot(1, 1, 59)").does("addLot(2, 1, 69)")
                .each(0, 2, "order(#, 0, 100)").each(0, 2, "open(#)")
                .due("close(0)", 3).due("seller(0, 1)", 3).due("seller(0, 3)", 0)
                .due("close(1)", 59).due("seller(1, 1)", 5).due("seller(1, 3)", 54)
                .due("close(2)", 69).due("seller(2, 1)", 6).due("seller(2, 3)", 63);
        PAGE.says("For a lot that is bought in, the seller pays a fee of 2 percent of the reserve, rounded down, each "
                + "time.")
                .does("addLot(4, 1, 149)").does("open(0)").does("close(0)").due("seller(4, 2)", 2)
                .does("offer(0, 100)").does("open(0)").does("close(0)").due("seller(4, 2)", 4)
                .does("offer(0, 49)").does("open(0)").does("close(0)").due("seller(4, 2)", 4).due("seller(4, 3)", -4);
        PAGE.says("The income of the house is the sum of premiums, commissions and fees.")
                .does("addLot(0, 1, 100)").does("addLot(1, 1, 500)").does("order(0, 0, 200)")
                .does("open(0)").does("open(1)").due("close(0)", 100).due("close(1)", 0)
                // 25 and 10 for the sold lot, 10 for the other one.
                .due("house(0)", 45);
    }

    private static void splitAndGroupedLots() {
        PAGE.tells("Split and grouped lots.");
        PAGE.says("When a lot is split into n parts, n new waiting lots of its seller are made;")
                .does("addLot(4, 8, 100)").due("split(0, 3)", 1).due("lots(-1)", 4).due("lots(0)", 3)
                .due("lot(1, 1)", 4).due("lot(2, 1)", 4).due("lot(3, 1)", 4).due("lot(0, 0)", 5)
                .due("lot(1, 4)", 0).throwsElement("why(1)");
        PAGE.says("the quantity is divided so that the parts differ by 1 at most, the greater ones first;")
                .does("addLot(0, 11, 0)").does("split(0, 4)")
                .due("lot(1, 2)", 3).due("lot(2, 2)", 3).due("lot(3, 2)", 3).due("lot(4, 2)", 2)
                .does("split(1, 2)").due("lot(5, 2)", 2).due("lot(6, 2)", 1);
        PAGE.says("the reserve of a part, and the maximum of the order of a bidder for it, are those of the lot times "
                + "the quantity of the part divided by that of the lot, rounded down;")
                .does("addLot(0, 3, 200)").does("order(0, 7, 100)").does("split(0, 2)")
                .due("lot(1, 3)", 133).due("lot(2, 3)", 66).due("maximum(1, 7)", 66).due("maximum(2, 7)", 33);
        PAGE.again()
                .does("addLot(0, 20, 90000)").does("setCredit(0, 90000)").does("order(0, 0, 90000)").does("split(0, 3)")
                .due("lot(1, 3)", 31500).due("lot(3, 3)", 27000).due("maximum(2, 0)", 31500)
                .due("maximum(3, 0)", 27000);
        PAGE.says("an order with the maximum 0 is left out.")
                .does("addLot(0, 3, 0)").does("order(0, 7, 1)").does("order(0, 8, 2)").does("order(0, 9, 3)")
                .does("split(0, 2)")
                // Two thirds are 0, 1 and 2, and one third is 0, 0 and 1.
                .due("orders(1)", 2).throwsElement("maximum(1, 7)").due("maximum(1, 8)", 1).due("maximum(1, 9)", 2)
                .due("orders(2)", 1).due("maximum(2, 9)", 1);
        PAGE.says("When two lots are grouped, a new waiting lot of their seller is made with the sums of their "
                + "quantities and reserves;")
                .does("addLot(2, 12, 40000)").does("addLot(2, 8, 50000)").due("group(0, 1)", 2).due("lots(-1)", 3)
                .due("lot(2, 0)", 0).due("lot(2, 1)", 2).due("lot(2, 2)", 20).due("lot(2, 3)", 90000)
                .due("lot(2, 4)", 0).throwsElement("why(2)");
        PAGE.says("each bidder with orders for both has an order for it with the sum of the maximums, but at most 90000.")
                .times(2, "addLot(0, 1, 0)").does("setCredit(1, 90000)").does("setCredit(2, 90000)")
                .does("order(0, 0, 50)").does("order(1, 0, 70)")
                .does("order(0, 1, 45000)").does("order(1, 1, 45000)")
                .does("order(0, 2, 45000)").does("order(1, 2, 45001)")
                .does("order(0, 3, 10)").does("order(1, 4, 10)")
                .due("group(0, 1)", 2).due("orders(-1)", 3)
                .due("maximum(2, 0)", 120).due("maximum(2, 1)", 90000).due("maximum(2, 2)", 90000)
                .throwsElement("maximum(2, 3)").throwsElement("maximum(2, 4)");
        PAGE.says("These orders get numbers like accepted ones, for the parts one after the other, and for each lot by "
                + "ascending bidders;")
                .does("addLot(0, 2, 0)").does("order(0, 6, 100)").does("order(0, 2, 120)").does("split(0, 2)")
                .does("open(1)").does("open(2)")
                // 1 and 2 were those of the whole lot.
                .due("limit(1, 0, 0)", 2).due("limit(1, 0, 2)", 3).due("limit(1, 1, 0)", 6).due("limit(1, 1, 2)", 4)
                .due("limit(2, 0, 2)", 5).due("limit(2, 1, 2)", 6);
        PAGE.again()
                .times(2, "addLot(0, 2, 0)").does("order(0, 6, 50)").does("order(1, 6, 50)").does("order(0, 2, 30)")
                .does("order(1, 2, 50)").does("group(0, 1)").does("open(2)")
                .due("limit(2, 0, 0)", 6).due("limit(2, 0, 2)", 6).due("limit(2, 1, 0)", 2).due("limit(2, 1, 2)", 5)
                .does("bid(2, 0, 120)").due("limit(2, 0, 2)", 7);
        PAGE.says("the orders for the old lots are removed.")
                .times(3, "addLot(0, 2, 0)").does("order(0, 6, 50)").does("split(0, 2)").due("orders(0)", 0)
                .does("order(1, 6, 50)").does("order(2, 6, 50)").does("group(1, 2)")
                .due("orders(1)", 0).due("orders(2)", 0).throwsElement("maximum(1, 6)").due("orders(-1)", 3);
    }

    private static void ledger() {
        PAGE.tells("Ledger.");
        PAGE.says("The ledger holds the first 250 of these events, in their order, each with a kind, a lot, a bidder and "
                + "an amount:")
                .does("addLot(0, 1, 0)")
                .times(62, "order(0, 0, 10)", "cancel(0, 0)", "order(0, 0, 20)", "cancel(0, 0)")
                .does("order(0, 1, 30)").does("order(0, 2, 40)").throwsIndex("event(250, 0)")
                .does("order(0, 3, 50)").does("open(0)").due("events(-1)", 250).due("events(1)", 0)
                .event(0, 0, 0, 0, 10).event(1, 9, 0, 0, 10).event(2, 0, 0, 0, 20).event(249, 0, 0, 2, 40);
        PAGE.says("0 an order accepted, with its maximum;")
                .times(2, "addLot(0, 1, 0)").does("order(1, 4, 77)").refused("order(1, 4, 77)", 7)
                .due("events(-1)", 1).event(0, 0, 1, 4, 77);
        PAGE.says("1 a lot opened,")
                .times(2, "addLot(0, 1, 0)").does("open(1)").due("events(-1)", 1).event(0, 1, 1, -1, 0);
        PAGE.says("2 a live bid accepted, with its amount;")
                .times(2, "addLot(0, 1, 0)").does("open(1)").does("bid(1, 7, 50)").refused("bid(1, 7, 60)", 2)
                .due("events(-1)", 2).event(1, 2, 1, 7, 50);
        PAGE.says("3 a lot sold, with the buyer and the price;")
                .times(2, "addLot(0, 1, 0)").does("open(1)").does("bid(1, 7, 50)").does("close(1)")
                .due("events(-1)", 3).event(2, 3, 1, 7, 10);
        PAGE.says("4 a lot bought in, with the fee;")
                .times(2, "addLot(0, 1, 1000)").does("open(1)").does("close(1)")
                .due("events(-1)", 2).event(1, 4, 1, -1, 20);
        PAGE.says("5 a lot withdrawn;")
                .times(2, "addLot(0, 1, 0)").does("order(1, 0, 10)").does("withdraw(1)")
                .due("events(-1)", 2).event(1, 5, 1, -1, 0);
        PAGE.says("6 a lot split and 7 two lots grouped, with the number of the first new lot as the amount and, for 7, "
                + "the first one of both lots;")
                .times(2, "addLot(0, 2, 0)").does("split(1, 2)").due("events(-1)", 1).event(0, 6, 1, -1, 2)
                .does("group(3, 0)").due("events(-1)", 2).event(1, 7, 3, -1, 4);
        PAGE.says("8 a lot offered again, with its new reserve;")
                .times(2, "addLot(0, 1, 1000)").does("open(1)").does("close(1)").does("offer(1, 999)")
                .due("events(-1)", 3).event(2, 8, 1, -1, 999);
        PAGE.says("9 an order cancelled, with its maximum.")
                .times(2, "addLot(0, 1, 0)").does("order(1, 4, 77)").does("cancel(1, 4)")
                .due("events(-1)", 2).event(1, 9, 1, 4, 77);
        PAGE.says("Where there is no bidder or amount, they are -1 and 0.")
                .times(2, "addLot(0, 1, 0)").does("open(0)").does("close(0)").does("withdraw(1)")
                .event(0, 1, 0, -1, 0).event(1, 4, 0, -1, 0).event(2, 5, 1, -1, 0);
        PAGE.says("Orders that come from splitting and grouping are no events.")
                .does("addLot(0, 2, 0)").does("order(0, 0, 50)").does("split(0, 2)").does("group(1, 2)")
                .due("orders(3)", 1).due("events(-1)", 3).due("events(0)", 1).due("events(9)", 0);
    }

    private static Run forTexts(Run run) {
        return run.times(2, "addLot(0, 1, 0)").does("order(0, 1, 50)").does("open(1)");
    }

    private static void texts() {
        PAGE.tells("Texts.");
        PAGE.says("A text of commands consists of one or more commands with \";\" between them:")
                .faulty("", 0).does("addLot(0, 1, 0)").reads("o0", 1).faulty("h0;", 3).faulty(";h0", 0)
                .faulty("h0 ;o0", 2).reads("b0,0,10;h0", 2);
        forTexts(PAGE.says("o and a lot to open it,")).reads("o0", 1).due("lot(0, 0)", 1);
        forTexts(PAGE.says("h and a lot to close it,")).reads("h1", 1).due("lot(1, 0)", 3);
        forTexts(PAGE.says("w and a lot to withdraw it,")).reads("w0", 1).due("lot(0, 0)", 4);
        forTexts(PAGE.says("b, a lot, a bidder and an amount for a live bid,"))
                .reads("b1,2,30", 1).due("limit(1, 0, 0)", 2).due("limit(1, 0, 1)", 30);
        forTexts(PAGE.says("a, a lot, a bidder and a maximum for an order,"))
                .reads("a0,3,44", 1).due("maximum(0, 3)", 44);
        forTexts(PAGE.says("and c, a lot and a bidder to cancel an order,"))
                .reads("c0,1", 1).due("orders(0)", 0);
        PAGE.says("where numbers have 1 to 5 digits and \",\" between them.")
                .does("addLot(0, 1, 0)").does("setCredit(1, 99999)")
                .reads("o00000", 1).faulty("o000000", 6).faulty("o", 1).reads("b0,00001,99900", 1)
                .faulty("b0,1,999000", 10).faulty("b0,1", 4).faulty("b0 1", 2).faulty("b0,,1", 3).faulty("c0;1", 2);
        PAGE.says("The fault position of a text is the index of its first character that cannot continue such a text, "
                + "or the length of the text if it ends too early.")
                .does("addLot(0, 1, 0)").faulty("x0", 0).faulty("o0x", 2).faulty("o0;", 3).faulty("a0,1", 4)
                .faulty("o0;b0,1,1,", 9).faulty("o0;b0,1,", 8);
    }

    private static void changes() {
        PAGE.tells("Changes.");
        PAGE.says("A change is a successful call of addLot, order, cancel, open, bid, close, withdraw, offer, split, "
                + "group, setCredit or setRows, also one that is made by a text.")
                .does("addLot(0, 2, 100)").due("undo()", 0).does("addLot(0, 2, 100)").does("save()")
                .change("order(0, 0, 50)").change("setCredit(0, 20000)").change("setRows(3, 2000, 100)")
                .change("split(0, 2)").change("addLot(0, 1, 0)").change("withdraw(0)").change("open(0)")
                .does("order(0, 0, 50)").does("save()").change("cancel(0, 0)")
                .does("open(0)").does("save()").change("bid(0, 1, 100)").change("close(0)")
                .does("close(0)").does("save()").change("offer(0, 99)")
                .does("offer(0, 99)").does("addLot(0, 1, 0)").does("save()").change("group(0, 1)");
        PAGE.again()
                .does("addLot(0, 1, 0)").does("save()").does("restore()").reads("o0;b0,0,10;h0", 3)
                .due("undo()", 2).due("lot(0, 0)", 1).due("undo()", 1).due("standing(0, 6)", 0).due("undo()", 0)
                .due("lot(0, 0)", 0).throwsState("undo()");
        PAGE.again()
                // What fails or only looks is no change.
                .does("addLot(0, 1, 0)").does("save()").does("restore()")
                .throwsArgument("addLot(9, 1, 0)").throwsState("close(0)").refused("bid(0, 0, 10)", 1)
                .throwsIndex("order(1, 0, 10)").throwsElement("cancel(0, 0)").throwsArgument("split(0, 2)")
                .due("lot(0, 0)", 0).due("nextStep(5)", 10).text("o0").does("save()").throwsState("undo()");
        PAGE.says("The sale before each of the latest 10 changes is kept and can be undone;")
                .each(1, 11, "setCredit(0, #)")
                .due("undo()", 9).due("bidder(0, 0)", 10).due("undo()", 8).due("bidder(0, 0)", 9)
                .times(7, "undo()").due("undo()", 0).due("bidder(0, 0)", 1).throwsState("undo()");
        PAGE.says("restore forgets them.")
                .does("setCredit(0, 1)").does("save()").does("setCredit(0, 2)").does("restore()")
                .due("bidder(0, 0)", 1).throwsState("undo()");
        theSale();
        PAGE.says("the reason that is kept, the text buffer and the fault position do not belong to it.")
                .does("addLot(0, 1, 0)").does("save()").does("setCredit(0, 5)")
                .refused("order(0, 0, 6)", 8).faulty("o0,", 2).text("o")
                .does("undo()").due("refusal()", 8).due("faultPosition()", 2)
                .does("restore()").due("refusal()", 8).due("faultPosition()", 2).reads("0", 1).due("lot(0, 0)", 1);
    }

    private static void theSale() {
        PAGE.says("The sale consists of the table, the credits, the lots, the orders and bids with their numbers, the "
                + "accounts, and the ledger;")
                .does("addLot(0, 1, 100)").does("order(0, 0, 50)").does("save()")
                .does("setRows(0, 0, 7)").does("setCredit(0, 5)").does("addLot(1, 1, 1000)").does("order(0, 1, 777)")
                .does("open(0)").does("open(1)").does("bid(0, 2, 6300)").does("close(0)").does("close(1)")
                .due("bidder(2, 4)", 1).due("seller(0, 4)", 1).due("seller(1, 2)", 20).due("events(-1)", 7)
                .does("restore()")
                .due("row(0, 1)", 10).due("bidder(0, 0)", 20000).due("lots(-1)", 1).due("lot(0, 0)", 0)
                .due("orders(-1)", 1).due("maximum(0, 0)", 50).due("bidder(2, 4)", 0).due("seller(0, 4)", 0)
                .due("seller(1, 2)", 0).due("house(0)", 0).due("events(-1)", 1)
                .does("order(0, 1, 50)").does("open(0)").due("limit(0, 0, 2)", 1).due("limit(0, 1, 2)", 2);
        PAGE.again()
                .does("addLot(0, 1, 0)").does("order(0, 0, 50)").does("open(0)").does("bid(0, 1, 30)")
                .due("limit(0, 1, 2)", 2).does("undo()").due("standing(0, 6)", 1).due("standing(0, 0)", 10)
                .due("events(-1)", 2).does("bid(0, 2, 20)").due("limit(0, 1, 2)", 2);
    }

    private static void exceptions() {
        PAGE.tells("Exceptions.");
        PAGE.says("A call that throws an exception leaves the state unchanged, unless stated otherwise.")
                // What it leaves is compared by throws... and refused.
                .does("addLot(0, 2, 100)").does("order(0, 0, 50)").does("save()").does("setCredit(1, 70)").text("o0;")
                .throwsArgument("addLot(0, 0, 100)").does("open(0)").throwsState("setRows(0, 0, 1)")
                .throwsIndex("setCredit(10, 5)").refused("order(0, 1, 71)", 8).throwsElement("cancel(0, 1)")
                .throwsState("open(0)").throwsState("withdraw(0)").throwsState("split(0, 2)")
                .throwsArgument("group(0, 0)").throwsState("offer(0, 99)").refused("bid(0, 1, 100)", 5)
                .throwsIndex("close(1)").due("close(0)", 0);
        PAGE.tells("If several conditions of a method are fulfilled, the one that is listed first determines the "
                + "exception.");
    }

    private static void inDoubt() {
        PAGE.tells("In doubt.");
        PAGE.says("An order that replaces one has a number of its own, also with the same maximum;")
                // With the same maximum it is refused by reason 7 before it could replace one.
                .does("addLot(0, 1, 0)").does("order(0, 0, 50)").does("order(0, 1, 50)").does("order(0, 0, 55)")
                .refused("order(0, 0, 55)", 7)
                .does("open(0)").due("limit(0, 0, 0)", 1).due("limit(0, 0, 2)", 2).due("limit(0, 1, 2)", 3);
        PAGE.says("orders with the maximum 0, which are left out, use up no number.")
                .does("addLot(0, 2, 0)").does("order(0, 0, 1)").does("order(0, 1, 100)").does("split(0, 2)")
                .does("open(1)").does("open(2)").due("limit(1, 0, 2)", 3).due("limit(2, 0, 2)", 4);
        PAGE.says("With equal limits of a bidder and the house the bidder leads.")
                .does("addLot(0, 1, 100)").does("order(0, 8, 90)").does("open(0)").due("standing(0, 1)", 8)
                .due("standing(0, 4)", 90).due("standing(0, 5)", 90).due("standing(0, 0)", 90);
        PAGE.says("Of a group, an order for one of both lots alone is removed.")
                .times(2, "addLot(0, 1, 0)").does("order(0, 0, 50)").does("order(1, 1, 60)").does("group(0, 1)")
                .due("orders(-1)", 0);
        PAGE.says("Whether there would be more than 40 orders is counted with the orders that are removed no longer kept.")
                .times(3, "addLot(0, 4, 0)").does("addLot(0, 1, 0)")
                .each(0, 9, "order(0, #, 50)").each(0, 9, "order(1, #, 50)").each(0, 9, "order(3, #, 50)")
                // 20 are kept, and 20 are new.
                .due("split(0, 2)", 4).due("orders(-1)", 40)
                .throwsState("split(1, 2)").does("cancel(3, 0)").throwsState("split(1, 2)")
                .each(1, 9, "cancel(3, #)").due("split(1, 2)", 6).due("orders(-1)", 40);
        PAGE.says("The sum that all sellers get is that of what they get after commissions and fees, and can be negative.")
                .does("addLot(0, 1, 100)").does("addLot(1, 1, 50000)").does("open(0)").does("open(1)")
                .does("bid(0, 0, 100)").due("close(0)", 100).due("house(3)", 90).due("close(1)", 0)
                .due("house(3)", -910);
        PAGE.says("The reason of the latest closing stays while a lot is offered or open again.")
                .does("addLot(0, 1, 100)").does("open(0)").does("close(0)").due("why(0)", 2)
                .does("offer(0, 50)").due("why(0)", 2).does("open(0)").due("why(0)", 2)
                .does("bid(0, 0, 100)").does("close(0)").due("why(0)", 0);
        PAGE.says("A text throws nothing for a command that would throw;")
                .does("addLot(0, 1, 0)")
                .reads("o1", 0).reads("h0", 0).reads("w9", 0).reads("b0,10,10", 0).reads("b0,0,0", 0)
                .reads("b0,0,10", 0).reads("a0,0,90001", 0).reads("a0,0,20001", 0).reads("c0,0", 0);
        PAGE.says("the reason of a refused bid or order in it is kept;")
                .does("addLot(0, 1, 0)").reads("b0,0,10", 0).due("refusal()", 1)
                .reads("a0,0,20001", 0).due("refusal()", 8);
        PAGE.says("each command that is carried out is a change of its own;")
                .does("addLot(0, 1, 0)").reads("o0;b0,0,10;b0,0,20", 2)
                .due("undo()", 2).due("standing(0, 6)", 0).due("undo()", 1).due("lot(0, 0)", 0).due("undo()", 0)
                .due("lots(-1)", 0);
        PAGE.says("numbers may begin with 0.")
                .does("addLot(0, 1, 0)").reads("a00000,00007,00050;o00", 2).due("maximum(0, 7)", 50);
        PAGE.says("Any character can be appended.")
                .faulty("" + (char) 0 + (char) 10 + (char) 127 + (char) 128 + (char) 255 + (char) 256 + (char) 0xD800
                        + (char) 0xFFFF, 0)
                .does("addLot(0, 1, 0)").faulty("o0" + (char) 0, 2).faulty("o0;" + (char) 0xFFFF, 3)
                .due("lot(0, 0)", 0);
        PAGE.says("Later events than the 250 that are kept do not count for audit and soldShare.")
                .does("addLot(0, 1, 50)").does("addLot(1, 1, 50)").does("addLot(2, 1, 50)")
                .does("open(0)").does("bid(0, 0, 50)").does("close(0)")
                .times(123, "order(1, 0, 10)", "cancel(1, 0)").due("events(-1)", 249).due("audit()", 0)
                .does("open(1)").does("bid(1, 5, 50)").does("close(1)")
                .due("audit()", 1).due("soldShare()", 1)
                .does("open(2)").does("close(2)").due("audit()", 2).due("soldShare()", 1);
        PAGE.says("A step that is not above the own limit changes nothing.")
                .does("addLot(0, 1, 0)").does("order(0, 0, 70)").does("order(0, 1, 70)").does("order(0, 2, 50)")
                .does("open(0)").due("priceIf(0, 2, 50)", 70).due("priceIf(0, 2, 40)", 70)
                .due("priceIf(0, 0, 70)", 70).due("priceIf(0, 1, 70)", 70).due("priceIf(0, 1, 80)", 80);
        PAGE.says("If the ask is greater than 99999, each amount is refused by 3.")
                .does("addLot(0, 1, 0)").does("setCredit(0, 999999)").does("setCredit(1, 999999)")
                .does("setCredit(2, 999999)").does("open(0)").does("bid(0, 0, 99900)").due("bid(0, 1, 99800)", 99900)
                .due("standing(0, 2)", 100000).refused("bid(0, 2, 99999)", 3).refused("bid(0, 2, 99900)", 3);
        PAGE.says("A part can have the reserve 0.")
                .does("addLot(0, 3, 2)").does("split(0, 2)").due("lot(1, 3)", 1).due("lot(2, 3)", 0)
                .does("open(2)").due("standing(2, 1)", -1);
        PAGE.says("restore is no change.")
                .does("save()").does("restore()").throwsState("undo()")
                .does("setCredit(0, 5)").due("undo()", 0);
        PAGE.tells("The constructor and the methods follow, a promise each: the signature, then what it does.");
    }

    public static void main(String[] args) {
        steps();
        people();
        lots();
        orders();
        limits();
        standing();
        bids();
        closing();
        splitAndGroupedLots();
        ledger();
        texts();
        changes();
        exceptions();
        inDoubt();
        PAGE.ends();
        Expect.end();
    }
}
