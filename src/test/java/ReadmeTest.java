/** The calls that README.md shows, in their order, with the answers that stand beside them there. */
final class ReadmeTest {
    private static final Check C = new Check("ReadmeTest");

    public static void main(String[] args) {
        TrousseauFlow flow = new TrousseauFlow();
        int cut = flow.step(2, 1, 0, false);
        int sew = flow.step(3, 0, 1, false);
        C.due("the first step", cut, 0);
        C.due("the second step", sew, 1);
        C.due("need", flow.need(sew, cut), 1);
        C.due("days(3)", flow.days(3), 1);
        C.due("stepOf", flow.stepOf(cut, 4), 3);
        C.due("doneIn", flow.doneIn(sew), 3);
        C.refused("need", flow, flow.need(cut, sew), 5, 3);
        C.due("run", Check.run(flow, "step 1 0 0;need 2 1;mile 2@9"), 3);
        C.due("tell", flow.tell(sew), 7);
        C.dueText("the line", Check.line(flow, sew), "1=3/1<0");
        C.due("save", flow.save(), 3);
        C.due("cancel", flow.cancel(1), 0);
        C.due("undo", flow.undo(), 5);
        C.due("days(4)", flow.days(4), 2);
        C.due("restore", flow.restore(), 3);
        C.end();
    }
}
