/-! a call's answer goes on -/
def oC (o : Option Rs) (f : Int → Sh → Mem → Option Rs) : Option Rs := oK o none fun r => f r.1 r.2.1 r.2.2
