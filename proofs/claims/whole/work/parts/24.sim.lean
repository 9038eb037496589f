theorem sim_count {u : TC} {v : TM} {w : Nat} (h : REL u v) (hw : w < 9) : rCount u w = rmCount v w := sorry
