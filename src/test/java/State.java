/** The kinds of state that a planner can be in; make() answers a new one each time, always alike. */
enum State {
    FRESH {
        @Override
        MrpPlanner make() {
            return new MrpPlanner(4, 6);
        }
    },
    /** Data and edges, but no plan() yet. */
    UNPLANNED {
        @Override
        MrpPlanner make() {
            return Samples.unplanned();
        }
    },
    /** Data and edges, but an edit has discarded the plan. */
    EDITED {
        @Override
        MrpPlanner make() {
            MrpPlanner x = Samples.busy();
            x.setDemand(0, 0, 10);
            return x;
        }
    },
    /** A kept plan, CURRENT 0. */
    PLANNED {
        @Override
        MrpPlanner make() {
            MrpPlanner x = Samples.busy();
            x.plan();
            return x;
        }
    },
    /** A kept plan, CURRENT 1, one item far below 0. */
    BUSY {
        @Override
        MrpPlanner make() {
            return Samples.busy();
        }
    },
    /** A kept plan, CURRENT P. */
    DONE {
        @Override
        MrpPlanner make() {
            MrpPlanner x = Samples.busy();
            for (int t = 1; t < 6; t++) {
                x.step();
            }
            return x;
        }
    },
    /** The last plan() failed, after an earlier one that went well. */
    TOO_LARGE {
        @Override
        MrpPlanner make() {
            return Samples.tooLarge();
        }
    },
    /** MAX_EDGES edges and a kept plan. */
    FULL {
        @Override
        MrpPlanner make() {
            MrpPlanner x = Samples.full();
            x.setDemand(0, 3, 2);
            x.plan();
            return x;
        }
    },
    /** One item, the fewest periods, and a kept plan. */
    SMALLEST {
        @Override
        MrpPlanner make() {
            MrpPlanner x = new MrpPlanner(1, 4);
            x.setItem(0, 1, MrpPlanner.FIXED_QTY, 10);
            x.setOnHand(0, 3);
            x.setDemand(0, 0, 5);
            x.setDemand(0, 3, 20);
            x.setReceipt(0, 1, 2);
            x.plan();
            return x;
        }
    },
    /** The most items and periods, every cell used, and a kept plan half executed. */
    GREATEST {
        @Override
        MrpPlanner make() {
            return Samples.greatest();
        }
    };

    abstract MrpPlanner make();

    /** The states of the four items of Samples.unplanned(), whose data and edges are all the same. */
    static State[] ofFourItems() {
        return new State[] {UNPLANNED, EDITED, PLANNED, BUSY, DONE};
    }

    /** Whether a planner of this state has a plan. */
    boolean hasPlan() {
        return this != FRESH && this != UNPLANNED && this != EDITED && this != TOO_LARGE;
    }
}
