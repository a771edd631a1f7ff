/-! a call's answer goes on -/
def oC (o : Option Rs) (f : Int → Sh → Mem → Option Rs) : Option Rs := match o with
  | some r => f r.1 r.2.1 r.2.2
  | none => none
