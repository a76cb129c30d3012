import java.util.List;

/** Many small frames, told to a FrameReader and to the slow Model alike; their answers have to be the same. */
public final class ModelTest {
    private static final int RUNS = 1500;

    private static int wrong = 0;

    private final Lot lot;
    private final int run;
    private FrameReader x = new FrameReader();
    private final Model model = new Model();
    private final StringBuilder told = new StringBuilder();

    private ModelTest(int run) {
        this.run = run;
        lot = new Lot(run);
    }

    public static void main(String[] args) {
        for (int run = 0; run < RUNS && wrong < 20; run++) {
            new ModelTest(run).go();
        }
        System.out.println(wrong == 0 ? "ModelTest: all answers are as due" : "ModelTest: wrong " + wrong);
        if (wrong != 0) {
            System.exit(1);
        }
    }

    private void due(String call, long got, long want) {
        if (got != want) {
            wrong++;
            System.out.println("run " + run + ": " + call + " answered " + got + ", due is " + want);
            System.out.println("   told: " + told);
        }
    }

    private void go() {
        tellCustom(0);
        tellCustom(1);
        int timbers = lot.between(2, 7);
        for (int i = 0; i < timbers; i++) {
            tellTimber();
            passDays();
        }
        int joints = lot.between(2, 12);
        for (int i = 0; i < joints; i++) {
            tellJoint();
            if (lot.oneIn(6)) {
                passDays();
            }
        }
        tellMaster();
        for (int i = 0; i < 12; i++) {
            tellMark();
            tellRings();
            tellLean();
            if (lot.oneIn(6)) {
                passDays();
            }
        }
        for (int i = 0; i < 3; i++) {
            ask();
            tellMark();
            tellCustom(lot.below(2));
            model.view = lot.oneIn(3) ? Model.NONE : lot.between(0, model.now);
            due("view", x.view(model.view) ? 1 : 0, 1);
            told.append(" view ").append(model.view);
        }
    }

    private void passDays() {
        int n = lot.between(1, 5);
        model.now += n;
        due("days", x.days(n), model.now);
    }

    private void tellTimber() {
        int kind = lot.below(lot.oneIn(2) ? 4 : 2);
        int t = model.timbers.size();
        model.timbers.add(new Model.Timber(kind, 30, model.now));
        model.rings.add(new java.util.ArrayList<>());
        due("timber", x.timber(kind, 30), t);
        told.append(" timber ").append(kind);
    }

    private void tellJoint() {
        int t = lot.below(model.timbers.size());
        int sort = lot.below(2);
        int size = lot.between(3, 5);
        long there = model.joints.stream().filter(j -> j.timber() == t).count();
        int want = there < 6 ? model.joints.size() : Model.NONE;
        due("joint", x.joint(t, 7, sort, size), want);
        if (want != Model.NONE) {
            model.joints.add(new Model.Joint(t, 7, sort, size, model.now));
            told.append(" joint ").append(t).append(sort == 0 ? " tenon " : " hole ").append(size);
        }
    }

    private void tellMark() {
        int n = lot.oneIn(5) ? 0 : lot.between(1, lot.oneIn(4) ? 6 : 3);
        StringBuilder signs = new StringBuilder();
        for (int i = 0; i < n; i++) {
            signs.append("IVXI?I".charAt(lot.below(6)));
        }
        if (lot.oneIn(4)) {
            signs.append('\'');
        }
        int j = lot.below(model.joints.size());
        model.marks.add(new Model.Mark(j, signs.toString(), model.now));
        due("mark", Feeder.mark(x, j, signs.toString()), n);
        told.append(" mark ").append(j).append(' ').append(signs);
    }

    private void tellMaster() {
        int from = lot.between(0, 100);
        int count = lot.between(5, 40);
        for (int y = from; y < from + count; y++) {
            int width = lot.oneIn(15) ? Model.NONE : lot.between(1, 4);
            model.master[y] = width;
            due("master", x.master(y, width) ? 1 : 0, 1);
        }
    }

    private void tellRings() {
        int t = lot.below(model.timbers.size());
        int from = lot.between(0, 190);
        int count = lot.between(1, 6);
        for (int i = 0; i < count && model.rings.get(t).size() < 24; i++) {
            int width = Math.max(0, model.master[from + i] == Model.NONE ? lot.below(5) : model.master[from + i]);
            model.rings.get(t).add(new Model.Ring(width, model.now));
            due("ring", x.ring(t, width), model.rings.get(t).size());
        }
        if (lot.oneIn(2)) {
            model.sap[t] = lot.between(0, 9);
            model.bark[t] = lot.oneIn(3);
            due("sap", x.sap(t, model.sap[t], model.bark[t]) ? 1 : 0, 1);
        }
    }

    private void tellLean() {
        int t = lot.below(model.timbers.size());
        int year = lot.between(0, lot.oneIn(2) ? 999 : 9);
        int far = lot.between(-99, 99);
        model.leans.add(new Model.Lean(t, year, far, model.now));
        due("lean", x.lean(t, year, far) ? 1 : 0, 1);
    }

    private void tellCustom(int c) {
        Model.Rule rule = new Model.Rule();
        StringBuilder text = new StringBuilder();
        String[] kinds = {"post", "beam", "rafter", "brace"};
        int lines = 0;
        for (int k = 0; k < 4; k++) {
            for (int m = 0; m < 4; m++) {
                if (!lot.oneIn(4)) {
                    rule.into[k][m] = true;
                    text.append(kinds[k]).append(" into ").append(kinds[m]).append(lot.oneIn(3) ? "\n;" : ";");
                    lines++;
                }
                if (lot.oneIn(8)) {
                    rule.ahead[k][m] = true;
                    text.append(kinds[k]).append(" ahead ").append(kinds[m]).append(" ; ");
                    lines++;
                }
            }
        }
        if (lot.oneIn(2)) {
            rule.four = lot.between(1, 3);
            text.append("four ").append(new String[] {"", "add", "less", "both"}[rule.four]).append(';');
            rule.turn = true;
            text.append("turn;");
            lines += 2;
        }
        if (lot.oneIn(2)) {
            rule.slack = lot.below(4);
            rule.hold = lot.below(6);
            rule.level = lot.below(100);
            rule.margin = lot.below(4);
            rule.sapFirst = lot.below(40);
            rule.sapSecond = rule.sapFirst + lot.below(30);
            rule.stock = lot.below(100);
            text.append("slack ").append(rule.slack).append(";hold ").append(rule.hold).append(";level ")
                .append(rule.level).append(";margin ").append(rule.margin).append(";sap ").append(rule.sapFirst)
                .append(" to ").append(rule.sapSecond).append(";stock ").append(rule.stock).append(';');
            lines += 6;
        }
        due("custom " + text, Feeder.custom(x, c, text.toString()), lines);
        model.rules[c] = rule;
        for (int k = 0; k < 4; k++) {
            for (int m = 0; m < 4; m++) {
                due("customs into", x.customs(c, 10 + 4 * k + m), rule.into[k][m] ? 1 : 0);
                due("customs ahead", x.customs(c, 30 + 4 * k + m), rule.isAhead(k, m) ? 1 : 0);
            }
        }
        told.append(" custom ").append(c).append(" {").append(text).append('}');
    }

    private void ask() {
        int[][] partners = model.partners();
        int reused = 0;
        int[] idle = new int[2];
        boolean[][][] mates = {model.mates(partners[0]), model.mates(partners[1])};
        for (int t = 0; t < 16; t++) {
            boolean[] linked = new boolean[2];
            for (int m = 0; m < 16; m++) {
                linked[0] |= mates[0][t][m];
                linked[1] |= mates[1][t][m];
            }
            reused += linked[0] && linked[1] ? 1 : 0;
        }
        for (int j = 0; model.hasJoint(j); j++) {
            if (partners[0][j] == Model.NONE && partners[1][j] == Model.NONE) {
                idle[model.joints.get(j).sort()]++;
            }
        }
        due("look(4)", x.look(4), reused);
        due("look(5)", x.look(5), idle[1]);
        due("look(6)", x.look(6), idle[0]);
        for (int c = 0; c < 2; c++) {
            askJoints(c);
            askJoin(c, partners[c], partners[c + 2]);
            askFrames(c, mates[c], partners[c]);
            askDates(c);
        }
        for (int t = 0; t < model.timbers.size(); t++) {
            askLeans(t);
        }
    }

    private void askJoints(int c) {
        for (int j = 0; j < model.joints.size(); j++) {
            boolean there = model.hasJoint(j);
            due("reads " + c + " " + j, x.reads(c, j), there ? model.reads(c, j) : Model.NONE);
            due("at 4 " + j, x.at(j, 4), there ? model.signsOf(j).length() : Model.NONE);
            due("at 5 " + j, x.at(j, 5), there ? model.sideOf(j) : Model.NONE);
            for (int h = 0; h < model.joints.size(); h++) {
                int want = Model.NONE;
                if (there && model.hasJoint(h) && model.joints.get(j).sort() == 0 && model.joints.get(h).sort() == 1) {
                    want = model.fits(c, j, h) ? 1 : 0;
                }
                due("fits " + c + " " + j + " " + h, x.fits(c, j, h), want);
            }
        }
    }

    private void askJoin(int c, int[] partner, int[] forced) {
        int pairs = 0;
        int more = 0;
        int sure = 0;
        StringBuilder text = new StringBuilder();
        for (int j = 0; j < 48; j++) {
            due("mate " + c + " " + j, x.mate(c, j), partner[j]);
            due("forced " + c + " " + j, x.forced(c, j), forced[j]);
            if (partner[j] != Model.NONE && model.joints.get(j).sort() == 0) {
                pairs++;
                more += model.joints.get(partner[j]).size() - model.joints.get(j).size();
                sure += forced[j];
                text.append(j).append('-').append(partner[j]).append(forced[j] == 1 ? "!;" : ";");
            }
        }
        due("join pairs " + c, x.join(c, 0), pairs);
        due("join more " + c, x.join(c, 1), more);
        due("join forced " + c, x.join(c, 2), sure);
        due("write " + c, x.write(c), text.length());
        due("out as " + text + " but " + Feeder.outText(x), text.toString().equals(Feeder.outText(x)) ? 1 : 0, 1);
    }

    private void askFrames(int c, boolean[][] mates, int[] partner) {
        List<Integer> frames = Model.frames(mates);
        due("frames " + c, x.join(c, 3), frames.size());
        for (int t = 0; t < 16; t++) {
            int want = Model.NONE;
            for (int f = 0; f < frames.size(); f++) {
                want = (frames.get(f) >> t & 1) == 1 ? f : want;
            }
            due("frameOf " + c + " " + t, x.frameOf(c, t), want);
        }
        for (int f = 0; f < frames.size(); f++) {
            int pairs = 0;
            for (int j = 0; j < 48; j++) {
                pairs += partner[j] > j && (frames.get(f) >> model.joints.get(j).timber() & 1) == 1 ? 1 : 0;
            }
            String call = c + " " + f;
            Model.Orders orders = model.new Orders(mates, model.rules[c], frames.get(f));
            due("frame 0 " + call, x.frame(c, f, 0), frames.get(f));
            due("frame 1 " + call, x.frame(c, f, 1), pairs);
            due("frame 2 " + call, x.frame(c, f, 2), orders.most);
            due("frame 3 " + call, x.frame(c, f, 3), orders.count > 0 ? 1 : 0);
            due("orders " + call, x.orders(c, f), orders.count);
            for (int i = 0; i < 17; i++) {
                int want = i < orders.best.size() ? orders.best.get(i) : Model.NONE;
                due("raised " + call + " " + i, x.raised(c, f, i), want);
            }
            int[] built = model.built(c, frames.get(f));
            for (int what = 0; what < 4; what++) {
                due("built " + call + " " + what, x.built(c, f, what), built[what]);
            }
        }
        due("orders behind", x.orders(c, frames.size()), Model.NONE);
        due("built behind", x.built(c, frames.size(), 3), Model.NONE);
    }

    private void askDates(int c) {
        for (int t = 0; t < model.timbers.size(); t++) {
            int[] date = model.date(c, t);
            for (int what = 0; what < 7; what++) {
                int want = model.hasTimber(t) ? date[what] : Model.NONE;
                due("date " + c + " " + t + " " + what, x.date(c, t, what), want);
            }
        }
    }

    private void askLeans(int t) {
        boolean there = model.hasTimber(t);
        for (int what = 0; what < 5; what++) {
            due("leans " + t + " " + what, x.leans(t, what), there ? model.lean(t, what) : -1000);
        }
        for (int bound : new int[] {0, 7, 99, 150, 999}) {
            due("falls " + t + " " + bound, x.falls(t, bound), there ? model.falls(t, bound) : Model.NONE);
        }
    }
}
