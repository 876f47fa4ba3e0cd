/-! laid by program: shallow functions and contracts -/

